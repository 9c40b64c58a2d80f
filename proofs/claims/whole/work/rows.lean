section
-- ===== PART A: goes FIRST, ahead of the names: the tables' words, and 'selects' of the private methods out of them =====
/-- a private method of a class that the tables say can be made, by its rows of tables_1 -/
def lw_okq (q : MethodName × Nat) : Prop := (q.1.cls ≠ "java/lang/invoke/MethodHandle" ∧ q.1.cls ≠ "java/lang/invoke/VarHandle") ∧ Cond.instantiable q.1.cls q.2 ∈ tables_1 ∧ Cond.privateMethod q.1 ∈ tables_1 ∧ Cond.instanceMethod q.1 ∈ tables_1
theorem lw_p0 : lw_okq (⟨"PatternDesk", "takeWord", "(I)V"⟩, 11) := ⟨⟨by decide +kernel, by decide +kernel⟩, List.mem_of_getElem? (i := 23) (by decide +kernel), List.mem_of_getElem? (i := 398) (by decide +kernel), List.mem_of_getElem? (i := 399) (by decide +kernel)⟩
theorem lw_p1 : lw_okq (⟨"PatternDesk$Tokens", "readToken", "(I)I"⟩, 6) := ⟨⟨by decide +kernel, by decide +kernel⟩, List.mem_of_getElem? (i := 31) (by decide +kernel), List.mem_of_getElem? (i := 422) (by decide +kernel), List.mem_of_getElem? (i := 423) (by decide +kernel)⟩
theorem lw_p2 : lw_okq (⟨"PatternDesk$Tokens", "signAt", "(I)I"⟩, 6) := ⟨⟨by decide +kernel, by decide +kernel⟩, List.mem_of_getElem? (i := 31) (by decide +kernel), List.mem_of_getElem? (i := 426) (by decide +kernel), List.mem_of_getElem? (i := 427) (by decide +kernel)⟩
theorem lw_p3 : lw_okq (⟨"PatternDesk$Tokens", "wordEnd", "(I)I"⟩, 6) := ⟨⟨by decide +kernel, by decide +kernel⟩, List.mem_of_getElem? (i := 31) (by decide +kernel), List.mem_of_getElem? (i := 516) (by decide +kernel), List.mem_of_getElem? (i := 517) (by decide +kernel)⟩
theorem lw_p4 : lw_okq (⟨"PatternDesk$Tokens", "wordKind", "(II)I"⟩, 6) := ⟨⟨by decide +kernel, by decide +kernel⟩, List.mem_of_getElem? (i := 31) (by decide +kernel), List.mem_of_getElem? (i := 523) (by decide +kernel), List.mem_of_getElem? (i := 524) (by decide +kernel)⟩
theorem lw_p5 : lw_okq (⟨"PatternDesk$Tokens", "spells", "(IILjava/lang/String;)Z"⟩, 6) := ⟨⟨by decide +kernel, by decide +kernel⟩, List.mem_of_getElem? (i := 31) (by decide +kernel), List.mem_of_getElem? (i := 528) (by decide +kernel), List.mem_of_getElem? (i := 529) (by decide +kernel)⟩
theorem lw_p6 : lw_okq (⟨"PatternDesk$Grammar", "item", "()Z"⟩, 2) := ⟨⟨by decide +kernel, by decide +kernel⟩, List.mem_of_getElem? (i := 57) (by decide +kernel), List.mem_of_getElem? (i := 565) (by decide +kernel), List.mem_of_getElem? (i := 566) (by decide +kernel)⟩
theorem lw_p7 : lw_okq (⟨"PatternDesk$Grammar", "takes", "(I)Z"⟩, 2) := ⟨⟨by decide +kernel, by decide +kernel⟩, List.mem_of_getElem? (i := 57) (by decide +kernel), List.mem_of_getElem? (i := 569) (by decide +kernel), List.mem_of_getElem? (i := 570) (by decide +kernel)⟩
theorem lw_p8 : lw_okq (⟨"PatternDesk$Grammar", "type", "(I)Z"⟩, 2) := ⟨⟨by decide +kernel, by decide +kernel⟩, List.mem_of_getElem? (i := 57) (by decide +kernel), List.mem_of_getElem? (i := 573) (by decide +kernel), List.mem_of_getElem? (i := 574) (by decide +kernel)⟩
theorem lw_p9 : lw_okq (⟨"PatternDesk$Grammar", "atom", "(I)Z"⟩, 2) := ⟨⟨by decide +kernel, by decide +kernel⟩, List.mem_of_getElem? (i := 57) (by decide +kernel), List.mem_of_getElem? (i := 577) (by decide +kernel), List.mem_of_getElem? (i := 578) (by decide +kernel)⟩
theorem lw_p10 : lw_okq (⟨"PatternDesk$Grammar", "term", "(I)Z"⟩, 2) := ⟨⟨by decide +kernel, by decide +kernel⟩, List.mem_of_getElem? (i := 57) (by decide +kernel), List.mem_of_getElem? (i := 581) (by decide +kernel), List.mem_of_getElem? (i := 582) (by decide +kernel)⟩
theorem lw_p11 : lw_okq (⟨"PatternDesk$Grammar", "arguments", "(I)Z"⟩, 2) := ⟨⟨by decide +kernel, by decide +kernel⟩, List.mem_of_getElem? (i := 57) (by decide +kernel), List.mem_of_getElem? (i := 585) (by decide +kernel), List.mem_of_getElem? (i := 586) (by decide +kernel)⟩
theorem lw_p12 : lw_okq (⟨"PatternDesk$Checker", "equation", "()Z"⟩, 15) := ⟨⟨by decide +kernel, by decide +kernel⟩, List.mem_of_getElem? (i := 120) (by decide +kernel), List.mem_of_getElem? (i := 614) (by decide +kernel), List.mem_of_getElem? (i := 615) (by decide +kernel)⟩
theorem lw_p13 : lw_okq (⟨"PatternDesk$Checker", "blame", "(II)Z"⟩, 15) := ⟨⟨by decide +kernel, by decide +kernel⟩, List.mem_of_getElem? (i := 120) (by decide +kernel), List.mem_of_getElem? (i := 618) (by decide +kernel), List.mem_of_getElem? (i := 619) (by decide +kernel)⟩
theorem lw_p14 : lw_okq (⟨"PatternDesk$Checker", "largeType", "()I"⟩, 15) := ⟨⟨by decide +kernel, by decide +kernel⟩, List.mem_of_getElem? (i := 120) (by decide +kernel), List.mem_of_getElem? (i := 623) (by decide +kernel), List.mem_of_getElem? (i := 624) (by decide +kernel)⟩
theorem lw_p15 : lw_okq (⟨"PatternDesk$Checker", "term", "(I)I"⟩, 15) := ⟨⟨by decide +kernel, by decide +kernel⟩, List.mem_of_getElem? (i := 120) (by decide +kernel), List.mem_of_getElem? (i := 627) (by decide +kernel), List.mem_of_getElem? (i := 628) (by decide +kernel)⟩
def lw_privs_1 : List (MethodName × Nat) := [(⟨"PatternDesk", "takeWord", "(I)V"⟩, 11), (⟨"PatternDesk$Tokens", "readToken", "(I)I"⟩, 6), (⟨"PatternDesk$Tokens", "signAt", "(I)I"⟩, 6), (⟨"PatternDesk$Tokens", "wordEnd", "(I)I"⟩, 6), (⟨"PatternDesk$Tokens", "wordKind", "(II)I"⟩, 6), (⟨"PatternDesk$Tokens", "spells", "(IILjava/lang/String;)Z"⟩, 6), (⟨"PatternDesk$Grammar", "item", "()Z"⟩, 2), (⟨"PatternDesk$Grammar", "takes", "(I)Z"⟩, 2), (⟨"PatternDesk$Grammar", "type", "(I)Z"⟩, 2), (⟨"PatternDesk$Grammar", "atom", "(I)Z"⟩, 2), (⟨"PatternDesk$Grammar", "term", "(I)Z"⟩, 2), (⟨"PatternDesk$Grammar", "arguments", "(I)Z"⟩, 2), (⟨"PatternDesk$Checker", "equation", "()Z"⟩, 15), (⟨"PatternDesk$Checker", "blame", "(II)Z"⟩, 15), (⟨"PatternDesk$Checker", "largeType", "()I"⟩, 15), (⟨"PatternDesk$Checker", "term", "(I)I"⟩, 15)]
theorem lw_r1 : ∀ q ∈ lw_privs_1, lw_okq q := List.forall_mem_cons.mpr ⟨lw_p0, List.forall_mem_cons.mpr ⟨lw_p1, List.forall_mem_cons.mpr ⟨lw_p2, List.forall_mem_cons.mpr ⟨lw_p3, List.forall_mem_cons.mpr ⟨lw_p4, List.forall_mem_cons.mpr ⟨lw_p5, List.forall_mem_cons.mpr ⟨lw_p6, List.forall_mem_cons.mpr ⟨lw_p7, List.forall_mem_cons.mpr ⟨lw_p8, List.forall_mem_cons.mpr ⟨lw_p9, List.forall_mem_cons.mpr ⟨lw_p10, List.forall_mem_cons.mpr ⟨lw_p11, List.forall_mem_cons.mpr ⟨lw_p12, List.forall_mem_cons.mpr ⟨lw_p13, List.forall_mem_cons.mpr ⟨lw_p14, List.forall_mem_cons.mpr ⟨lw_p15, fun _ h => absurd h List.not_mem_nil⟩⟩⟩⟩⟩⟩⟩⟩⟩⟩⟩⟩⟩⟩⟩⟩
theorem lw_p16 : lw_okq (⟨"PatternDesk$Checker", "abstraction", "(I)I"⟩, 15) := ⟨⟨by decide +kernel, by decide +kernel⟩, List.mem_of_getElem? (i := 120) (by decide +kernel), List.mem_of_getElem? (i := 631) (by decide +kernel), List.mem_of_getElem? (i := 632) (by decide +kernel)⟩
theorem lw_p17 : lw_okq (⟨"PatternDesk$Checker", "type", "(I)I"⟩, 15) := ⟨⟨by decide +kernel, by decide +kernel⟩, List.mem_of_getElem? (i := 120) (by decide +kernel), List.mem_of_getElem? (i := 635) (by decide +kernel), List.mem_of_getElem? (i := 636) (by decide +kernel)⟩
theorem lw_p18 : lw_okq (⟨"PatternDesk$Checker", "atom", "(I)I"⟩, 15) := ⟨⟨by decide +kernel, by decide +kernel⟩, List.mem_of_getElem? (i := 120) (by decide +kernel), List.mem_of_getElem? (i := 639) (by decide +kernel), List.mem_of_getElem? (i := 640) (by decide +kernel)⟩
theorem lw_p19 : lw_okq (⟨"PatternDesk$Checker", "named", "(IZ)I"⟩, 15) := ⟨⟨by decide +kernel, by decide +kernel⟩, List.mem_of_getElem? (i := 120) (by decide +kernel), List.mem_of_getElem? (i := 659) (by decide +kernel), List.mem_of_getElem? (i := 660) (by decide +kernel)⟩
theorem lw_p20 : lw_okq (⟨"PatternDesk$Checker", "meaning", "(I)I"⟩, 15) := ⟨⟨by decide +kernel, by decide +kernel⟩, List.mem_of_getElem? (i := 120) (by decide +kernel), List.mem_of_getElem? (i := 663) (by decide +kernel), List.mem_of_getElem? (i := 664) (by decide +kernel)⟩
theorem lw_p21 : lw_okq (⟨"PatternDesk$Checker", "beginsArgument", "()Z"⟩, 15) := ⟨⟨by decide +kernel, by decide +kernel⟩, List.mem_of_getElem? (i := 120) (by decide +kernel), List.mem_of_getElem? (i := 686) (by decide +kernel), List.mem_of_getElem? (i := 687) (by decide +kernel)⟩
theorem lw_p22 : lw_okq (⟨"PatternDesk$Checker", "argument", "(I)I"⟩, 15) := ⟨⟨by decide +kernel, by decide +kernel⟩, List.mem_of_getElem? (i := 120) (by decide +kernel), List.mem_of_getElem? (i := 690) (by decide +kernel), List.mem_of_getElem? (i := 691) (by decide +kernel)⟩
theorem lw_p23 : lw_okq (⟨"PatternDesk$Checker", "gives", "(II)Z"⟩, 15) := ⟨⟨by decide +kernel, by decide +kernel⟩, List.mem_of_getElem? (i := 120) (by decide +kernel), List.mem_of_getElem? (i := 702) (by decide +kernel), List.mem_of_getElem? (i := 703) (by decide +kernel)⟩
theorem lw_p24 : lw_okq (⟨"PatternDesk$Terms", "asVariable", "(II)I"⟩, 9) := ⟨⟨by decide +kernel, by decide +kernel⟩, List.mem_of_getElem? (i := 86) (by decide +kernel), List.mem_of_getElem? (i := 714) (by decide +kernel), List.mem_of_getElem? (i := 715) (by decide +kernel)⟩
theorem lw_p25 : lw_okq (⟨"PatternDesk$Terms", "complete", "(III)I"⟩, 9) := ⟨⟨by decide +kernel, by decide +kernel⟩, List.mem_of_getElem? (i := 86) (by decide +kernel), List.mem_of_getElem? (i := 740) (by decide +kernel), List.mem_of_getElem? (i := 741) (by decide +kernel)⟩
theorem lw_p26 : lw_okq (⟨"PatternDesk$Checker", "declaration", "(LPatternDesk$Names;)Z"⟩, 15) := ⟨⟨by decide +kernel, by decide +kernel⟩, List.mem_of_getElem? (i := 120) (by decide +kernel), List.mem_of_getElem? (i := 755) (by decide +kernel), List.mem_of_getElem? (i := 756) (by decide +kernel)⟩
theorem lw_p27 : lw_okq (⟨"PatternDesk$Solver", "step", "()Z"⟩, 13) := ⟨⟨by decide +kernel, by decide +kernel⟩, List.mem_of_getElem? (i := 241) (by decide +kernel), List.mem_of_getElem? (i := 840) (by decide +kernel), List.mem_of_getElem? (i := 841) (by decide +kernel)⟩
theorem lw_p28 : lw_okq (⟨"PatternDesk$Solver", "takePair", "()V"⟩, 13) := ⟨⟨by decide +kernel, by decide +kernel⟩, List.mem_of_getElem? (i := 241) (by decide +kernel), List.mem_of_getElem? (i := 844) (by decide +kernel), List.mem_of_getElem? (i := 845) (by decide +kernel)⟩
theorem lw_p29 : lw_okq (⟨"PatternDesk$Solver", "isUnknown", "(I)Z"⟩, 13) := ⟨⟨by decide +kernel, by decide +kernel⟩, List.mem_of_getElem? (i := 241) (by decide +kernel), List.mem_of_getElem? (i := 884) (by decide +kernel), List.mem_of_getElem? (i := 885) (by decide +kernel)⟩
theorem lw_p30 : lw_okq (⟨"PatternDesk$Solver", "equalArguments", "()I"⟩, 13) := ⟨⟨by decide +kernel, by decide +kernel⟩, List.mem_of_getElem? (i := 241) (by decide +kernel), List.mem_of_getElem? (i := 888) (by decide +kernel), List.mem_of_getElem? (i := 889) (by decide +kernel)⟩
theorem lw_p31 : lw_okq (⟨"PatternDesk$Solver", "allArguments", "(I)I"⟩, 13) := ⟨⟨by decide +kernel, by decide +kernel⟩, List.mem_of_getElem? (i := 241) (by decide +kernel), List.mem_of_getElem? (i := 898) (by decide +kernel), List.mem_of_getElem? (i := 899) (by decide +kernel)⟩
def lw_privs_2 : List (MethodName × Nat) := [(⟨"PatternDesk$Checker", "abstraction", "(I)I"⟩, 15), (⟨"PatternDesk$Checker", "type", "(I)I"⟩, 15), (⟨"PatternDesk$Checker", "atom", "(I)I"⟩, 15), (⟨"PatternDesk$Checker", "named", "(IZ)I"⟩, 15), (⟨"PatternDesk$Checker", "meaning", "(I)I"⟩, 15), (⟨"PatternDesk$Checker", "beginsArgument", "()Z"⟩, 15), (⟨"PatternDesk$Checker", "argument", "(I)I"⟩, 15), (⟨"PatternDesk$Checker", "gives", "(II)Z"⟩, 15), (⟨"PatternDesk$Terms", "asVariable", "(II)I"⟩, 9), (⟨"PatternDesk$Terms", "complete", "(III)I"⟩, 9), (⟨"PatternDesk$Checker", "declaration", "(LPatternDesk$Names;)Z"⟩, 15), (⟨"PatternDesk$Solver", "step", "()Z"⟩, 13), (⟨"PatternDesk$Solver", "takePair", "()V"⟩, 13), (⟨"PatternDesk$Solver", "isUnknown", "(I)Z"⟩, 13), (⟨"PatternDesk$Solver", "equalArguments", "()I"⟩, 13), (⟨"PatternDesk$Solver", "allArguments", "(I)I"⟩, 13)]
theorem lw_r2 : ∀ q ∈ lw_privs_2, lw_okq q := List.forall_mem_cons.mpr ⟨lw_p16, List.forall_mem_cons.mpr ⟨lw_p17, List.forall_mem_cons.mpr ⟨lw_p18, List.forall_mem_cons.mpr ⟨lw_p19, List.forall_mem_cons.mpr ⟨lw_p20, List.forall_mem_cons.mpr ⟨lw_p21, List.forall_mem_cons.mpr ⟨lw_p22, List.forall_mem_cons.mpr ⟨lw_p23, List.forall_mem_cons.mpr ⟨lw_p24, List.forall_mem_cons.mpr ⟨lw_p25, List.forall_mem_cons.mpr ⟨lw_p26, List.forall_mem_cons.mpr ⟨lw_p27, List.forall_mem_cons.mpr ⟨lw_p28, List.forall_mem_cons.mpr ⟨lw_p29, List.forall_mem_cons.mpr ⟨lw_p30, List.forall_mem_cons.mpr ⟨lw_p31, fun _ h => absurd h List.not_mem_nil⟩⟩⟩⟩⟩⟩⟩⟩⟩⟩⟩⟩⟩⟩⟩⟩
theorem lw_p32 : lw_okq (⟨"PatternDesk$Solver", "meet", "()V"⟩, 13) := ⟨⟨by decide +kernel, by decide +kernel⟩, List.mem_of_getElem? (i := 241) (by decide +kernel), List.mem_of_getElem? (i := 927) (by decide +kernel), List.mem_of_getElem? (i := 928) (by decide +kernel)⟩
theorem lw_p33 : lw_okq (⟨"PatternDesk$Solver", "give", "()Z"⟩, 13) := ⟨⟨by decide +kernel, by decide +kernel⟩, List.mem_of_getElem? (i := 241) (by decide +kernel), List.mem_of_getElem? (i := 946) (by decide +kernel), List.mem_of_getElem? (i := 947) (by decide +kernel)⟩
theorem lw_p34 : lw_okq (⟨"PatternDesk$Solver", "fitStep", "()Z"⟩, 13) := ⟨⟨by decide +kernel, by decide +kernel⟩, List.mem_of_getElem? (i := 241) (by decide +kernel), List.mem_of_getElem? (i := 960) (by decide +kernel), List.mem_of_getElem? (i := 961) (by decide +kernel)⟩
theorem lw_p35 : lw_okq (⟨"PatternDesk$Solver", "fitUnknown", "(III)Z"⟩, 13) := ⟨⟨by decide +kernel, by decide +kernel⟩, List.mem_of_getElem? (i := 241) (by decide +kernel), List.mem_of_getElem? (i := 964) (by decide +kernel), List.mem_of_getElem? (i := 965) (by decide +kernel)⟩
theorem lw_p36 : lw_okq (⟨"PatternDesk$Solver", "allowedArguments", "(II)I"⟩, 13) := ⟨⟨by decide +kernel, by decide +kernel⟩, List.mem_of_getElem? (i := 241) (by decide +kernel), List.mem_of_getElem? (i := 968) (by decide +kernel), List.mem_of_getElem? (i := 969) (by decide +kernel)⟩
theorem lw_p37 : lw_okq (⟨"PatternDesk$Solver", "isAllowed", "(I)Z"⟩, 13) := ⟨⟨by decide +kernel, by decide +kernel⟩, List.mem_of_getElem? (i := 241) (by decide +kernel), List.mem_of_getElem? (i := 972) (by decide +kernel), List.mem_of_getElem? (i := 973) (by decide +kernel)⟩
theorem lw_p38 : lw_okq (⟨"PatternDesk$Solver", "swap", "()V"⟩, 13) := ⟨⟨by decide +kernel, by decide +kernel⟩, List.mem_of_getElem? (i := 241) (by decide +kernel), List.mem_of_getElem? (i := 984) (by decide +kernel), List.mem_of_getElem? (i := 985) (by decide +kernel)⟩
theorem lw_p39 : lw_okq (⟨"PatternDesk$Solver", "takeApart", "()Z"⟩, 13) := ⟨⟨by decide +kernel, by decide +kernel⟩, List.mem_of_getElem? (i := 241) (by decide +kernel), List.mem_of_getElem? (i := 988) (by decide +kernel), List.mem_of_getElem? (i := 989) (by decide +kernel)⟩
theorem lw_p40 : lw_okq (⟨"PatternDesk$Writer", "numberStep", "()V"⟩, 12) := ⟨⟨by decide +kernel, by decide +kernel⟩, List.mem_of_getElem? (i := 315) (by decide +kernel), List.mem_of_getElem? (i := 1007) (by decide +kernel), List.mem_of_getElem? (i := 1008) (by decide +kernel)⟩
theorem lw_p41 : lw_okq (⟨"PatternDesk$Writer", "orderArguments", "(II)V"⟩, 12) := ⟨⟨by decide +kernel, by decide +kernel⟩, List.mem_of_getElem? (i := 315) (by decide +kernel), List.mem_of_getElem? (i := 1025) (by decide +kernel), List.mem_of_getElem? (i := 1026) (by decide +kernel)⟩
theorem lw_p42 : lw_okq (⟨"PatternDesk$Writer", "argumentLevel", "(III)I"⟩, 12) := ⟨⟨by decide +kernel, by decide +kernel⟩, List.mem_of_getElem? (i := 315) (by decide +kernel), List.mem_of_getElem? (i := 1029) (by decide +kernel), List.mem_of_getElem? (i := 1030) (by decide +kernel)⟩
theorem lw_p43 : lw_okq (⟨"PatternDesk", "hasSolution", "()Z"⟩, 11) := ⟨⟨by decide +kernel, by decide +kernel⟩, List.mem_of_getElem? (i := 23) (by decide +kernel), List.mem_of_getElem? (i := 1038) (by decide +kernel), List.mem_of_getElem? (i := 1039) (by decide +kernel)⟩
theorem lw_p44 : lw_okq (⟨"PatternDesk$Writer", "writeStep", "()V"⟩, 12) := ⟨⟨by decide +kernel, by decide +kernel⟩, List.mem_of_getElem? (i := 315) (by decide +kernel), List.mem_of_getElem? (i := 1056) (by decide +kernel), List.mem_of_getElem? (i := 1057) (by decide +kernel)⟩
theorem lw_p45 : lw_okq (⟨"PatternDesk$Writer", "put", "(I)V"⟩, 12) := ⟨⟨by decide +kernel, by decide +kernel⟩, List.mem_of_getElem? (i := 315) (by decide +kernel), List.mem_of_getElem? (i := 1061) (by decide +kernel), List.mem_of_getElem? (i := 1062) (by decide +kernel)⟩
theorem lw_p46 : lw_okq (⟨"PatternDesk$Writer", "beginArgument", "(I)V"⟩, 12) := ⟨⟨by decide +kernel, by decide +kernel⟩, List.mem_of_getElem? (i := 315) (by decide +kernel), List.mem_of_getElem? (i := 1068) (by decide +kernel), List.mem_of_getElem? (i := 1069) (by decide +kernel)⟩
theorem lw_p47 : lw_okq (⟨"PatternDesk$Writer", "putBinder", "(I)V"⟩, 12) := ⟨⟨by decide +kernel, by decide +kernel⟩, List.mem_of_getElem? (i := 315) (by decide +kernel), List.mem_of_getElem? (i := 1072) (by decide +kernel), List.mem_of_getElem? (i := 1073) (by decide +kernel)⟩
def lw_privs_3 : List (MethodName × Nat) := [(⟨"PatternDesk$Solver", "meet", "()V"⟩, 13), (⟨"PatternDesk$Solver", "give", "()Z"⟩, 13), (⟨"PatternDesk$Solver", "fitStep", "()Z"⟩, 13), (⟨"PatternDesk$Solver", "fitUnknown", "(III)Z"⟩, 13), (⟨"PatternDesk$Solver", "allowedArguments", "(II)I"⟩, 13), (⟨"PatternDesk$Solver", "isAllowed", "(I)Z"⟩, 13), (⟨"PatternDesk$Solver", "swap", "()V"⟩, 13), (⟨"PatternDesk$Solver", "takeApart", "()Z"⟩, 13), (⟨"PatternDesk$Writer", "numberStep", "()V"⟩, 12), (⟨"PatternDesk$Writer", "orderArguments", "(II)V"⟩, 12), (⟨"PatternDesk$Writer", "argumentLevel", "(III)I"⟩, 12), (⟨"PatternDesk", "hasSolution", "()Z"⟩, 11), (⟨"PatternDesk$Writer", "writeStep", "()V"⟩, 12), (⟨"PatternDesk$Writer", "put", "(I)V"⟩, 12), (⟨"PatternDesk$Writer", "beginArgument", "(I)V"⟩, 12), (⟨"PatternDesk$Writer", "putBinder", "(I)V"⟩, 12)]
theorem lw_r3 : ∀ q ∈ lw_privs_3, lw_okq q := List.forall_mem_cons.mpr ⟨lw_p32, List.forall_mem_cons.mpr ⟨lw_p33, List.forall_mem_cons.mpr ⟨lw_p34, List.forall_mem_cons.mpr ⟨lw_p35, List.forall_mem_cons.mpr ⟨lw_p36, List.forall_mem_cons.mpr ⟨lw_p37, List.forall_mem_cons.mpr ⟨lw_p38, List.forall_mem_cons.mpr ⟨lw_p39, List.forall_mem_cons.mpr ⟨lw_p40, List.forall_mem_cons.mpr ⟨lw_p41, List.forall_mem_cons.mpr ⟨lw_p42, List.forall_mem_cons.mpr ⟨lw_p43, List.forall_mem_cons.mpr ⟨lw_p44, List.forall_mem_cons.mpr ⟨lw_p45, List.forall_mem_cons.mpr ⟨lw_p46, List.forall_mem_cons.mpr ⟨lw_p47, fun _ h => absurd h List.not_mem_nil⟩⟩⟩⟩⟩⟩⟩⟩⟩⟩⟩⟩⟩⟩⟩⟩
theorem lw_p48 : lw_okq (⟨"PatternDesk$Writer", "putNumber", "(I)V"⟩, 12) := ⟨⟨by decide +kernel, by decide +kernel⟩, List.mem_of_getElem? (i := 315) (by decide +kernel), List.mem_of_getElem? (i := 1076) (by decide +kernel), List.mem_of_getElem? (i := 1077) (by decide +kernel)⟩
theorem lw_p49 : lw_okq (⟨"PatternDesk$Writer", "putUnknown", "(III)V"⟩, 12) := ⟨⟨by decide +kernel, by decide +kernel⟩, List.mem_of_getElem? (i := 315) (by decide +kernel), List.mem_of_getElem? (i := 1080) (by decide +kernel), List.mem_of_getElem? (i := 1081) (by decide +kernel)⟩
theorem lw_p50 : lw_okq (⟨"PatternDesk$Writer", "putVariable", "(IIII)V"⟩, 12) := ⟨⟨by decide +kernel, by decide +kernel⟩, List.mem_of_getElem? (i := 315) (by decide +kernel), List.mem_of_getElem? (i := 1085) (by decide +kernel), List.mem_of_getElem? (i := 1086) (by decide +kernel)⟩
theorem lw_p51 : lw_okq (⟨"PatternDesk$Writer", "putHead", "(II)V"⟩, 12) := ⟨⟨by decide +kernel, by decide +kernel⟩, List.mem_of_getElem? (i := 315) (by decide +kernel), List.mem_of_getElem? (i := 1092) (by decide +kernel), List.mem_of_getElem? (i := 1093) (by decide +kernel)⟩
theorem lw_p52 : lw_okq (⟨"PatternDeskModel", "cut", "()V"⟩, 90) := ⟨⟨by decide +kernel, by decide +kernel⟩, List.mem_of_getElem? (i := 1133) (by decide +kernel), List.mem_of_getElem? (i := 1422) (by decide +kernel), List.mem_of_getElem? (i := 1423) (by decide +kernel)⟩
theorem lw_p53 : lw_okq (⟨"PatternDeskModel", "byteAt", "(I)I"⟩, 90) := ⟨⟨by decide +kernel, by decide +kernel⟩, List.mem_of_getElem? (i := 1133) (by decide +kernel), List.mem_of_getElem? (i := 1426) (by decide +kernel), List.mem_of_getElem? (i := 1427) (by decide +kernel)⟩
theorem lw_p54 : lw_okq (⟨"PatternDeskModel", "tokenAt", "(II)I"⟩, 90) := ⟨⟨by decide +kernel, by decide +kernel⟩, List.mem_of_getElem? (i := 1133) (by decide +kernel), List.mem_of_getElem? (i := 1430) (by decide +kernel), List.mem_of_getElem? (i := 1431) (by decide +kernel)⟩
theorem lw_p55 : lw_okq (⟨"PatternDeskModel", "is", "(IILjava/lang/String;)Z"⟩, 90) := ⟨⟨by decide +kernel, by decide +kernel⟩, List.mem_of_getElem? (i := 1133) (by decide +kernel), List.mem_of_getElem? (i := 1441) (by decide +kernel), List.mem_of_getElem? (i := 1442) (by decide +kernel)⟩
theorem lw_p56 : lw_okq (⟨"PatternDeskModel", "read", "()V"⟩, 90) := ⟨⟨by decide +kernel, by decide +kernel⟩, List.mem_of_getElem? (i := 1133) (by decide +kernel), List.mem_of_getElem? (i := 1451) (by decide +kernel), List.mem_of_getElem? (i := 1452) (by decide +kernel)⟩
theorem lw_p57 : lw_okq (⟨"PatternDeskModel", "take", "(I)I"⟩, 90) := ⟨⟨by decide +kernel, by decide +kernel⟩, List.mem_of_getElem? (i := 1133) (by decide +kernel), List.mem_of_getElem? (i := 1455) (by decide +kernel), List.mem_of_getElem? (i := 1456) (by decide +kernel)⟩
theorem lw_p58 : lw_okq (⟨"PatternDeskModel", "type", "(I)I"⟩, 90) := ⟨⟨by decide +kernel, by decide +kernel⟩, List.mem_of_getElem? (i := 1133) (by decide +kernel), List.mem_of_getElem? (i := 1459) (by decide +kernel), List.mem_of_getElem? (i := 1460) (by decide +kernel)⟩
theorem lw_p59 : lw_okq (⟨"PatternDeskModel", "arrow", "(II)I"⟩, 90) := ⟨⟨by decide +kernel, by decide +kernel⟩, List.mem_of_getElem? (i := 1133) (by decide +kernel), List.mem_of_getElem? (i := 1463) (by decide +kernel), List.mem_of_getElem? (i := 1464) (by decide +kernel)⟩
theorem lw_p60 : lw_okq (⟨"PatternDeskModel", "term", "(I)I"⟩, 90) := ⟨⟨by decide +kernel, by decide +kernel⟩, List.mem_of_getElem? (i := 1133) (by decide +kernel), List.mem_of_getElem? (i := 1467) (by decide +kernel), List.mem_of_getElem? (i := 1468) (by decide +kernel)⟩
theorem lw_p61 : lw_okq (⟨"PatternDeskModel", "node", "(II)I"⟩, 90) := ⟨⟨by decide +kernel, by decide +kernel⟩, List.mem_of_getElem? (i := 1133) (by decide +kernel), List.mem_of_getElem? (i := 1471) (by decide +kernel), List.mem_of_getElem? (i := 1472) (by decide +kernel)⟩
theorem lw_p62 : lw_okq (⟨"PatternDeskModel", "add", "(II)V"⟩, 90) := ⟨⟨by decide +kernel, by decide +kernel⟩, List.mem_of_getElem? (i := 1133) (by decide +kernel), List.mem_of_getElem? (i := 1475) (by decide +kernel), List.mem_of_getElem? (i := 1476) (by decide +kernel)⟩
theorem lw_p63 : lw_okq (⟨"PatternDeskModel", "equation", "(I)V"⟩, 90) := ⟨⟨by decide +kernel, by decide +kernel⟩, List.mem_of_getElem? (i := 1133) (by decide +kernel), List.mem_of_getElem? (i := 1479) (by decide +kernel), List.mem_of_getElem? (i := 1480) (by decide +kernel)⟩
def lw_privs_4 : List (MethodName × Nat) := [(⟨"PatternDesk$Writer", "putNumber", "(I)V"⟩, 12), (⟨"PatternDesk$Writer", "putUnknown", "(III)V"⟩, 12), (⟨"PatternDesk$Writer", "putVariable", "(IIII)V"⟩, 12), (⟨"PatternDesk$Writer", "putHead", "(II)V"⟩, 12), (⟨"PatternDeskModel", "cut", "()V"⟩, 90), (⟨"PatternDeskModel", "byteAt", "(I)I"⟩, 90), (⟨"PatternDeskModel", "tokenAt", "(II)I"⟩, 90), (⟨"PatternDeskModel", "is", "(IILjava/lang/String;)Z"⟩, 90), (⟨"PatternDeskModel", "read", "()V"⟩, 90), (⟨"PatternDeskModel", "take", "(I)I"⟩, 90), (⟨"PatternDeskModel", "type", "(I)I"⟩, 90), (⟨"PatternDeskModel", "arrow", "(II)I"⟩, 90), (⟨"PatternDeskModel", "term", "(I)I"⟩, 90), (⟨"PatternDeskModel", "node", "(II)I"⟩, 90), (⟨"PatternDeskModel", "add", "(II)V"⟩, 90), (⟨"PatternDeskModel", "equation", "(I)V"⟩, 90)]
theorem lw_r4 : ∀ q ∈ lw_privs_4, lw_okq q := List.forall_mem_cons.mpr ⟨lw_p48, List.forall_mem_cons.mpr ⟨lw_p49, List.forall_mem_cons.mpr ⟨lw_p50, List.forall_mem_cons.mpr ⟨lw_p51, List.forall_mem_cons.mpr ⟨lw_p52, List.forall_mem_cons.mpr ⟨lw_p53, List.forall_mem_cons.mpr ⟨lw_p54, List.forall_mem_cons.mpr ⟨lw_p55, List.forall_mem_cons.mpr ⟨lw_p56, List.forall_mem_cons.mpr ⟨lw_p57, List.forall_mem_cons.mpr ⟨lw_p58, List.forall_mem_cons.mpr ⟨lw_p59, List.forall_mem_cons.mpr ⟨lw_p60, List.forall_mem_cons.mpr ⟨lw_p61, List.forall_mem_cons.mpr ⟨lw_p62, List.forall_mem_cons.mpr ⟨lw_p63, fun _ h => absurd h List.not_mem_nil⟩⟩⟩⟩⟩⟩⟩⟩⟩⟩⟩⟩⟩⟩⟩⟩
theorem lw_p64 : lw_okq (⟨"PatternDeskModel", "wrong", "(II)V"⟩, 90) := ⟨⟨by decide +kernel, by decide +kernel⟩, List.mem_of_getElem? (i := 1133) (by decide +kernel), List.mem_of_getElem? (i := 1483) (by decide +kernel), List.mem_of_getElem? (i := 1484) (by decide +kernel)⟩
theorem lw_p65 : lw_okq (⟨"PatternDeskModel", "check", "(I)I"⟩, 90) := ⟨⟨by decide +kernel, by decide +kernel⟩, List.mem_of_getElem? (i := 1133) (by decide +kernel), List.mem_of_getElem? (i := 1487) (by decide +kernel), List.mem_of_getElem? (i := 1488) (by decide +kernel)⟩
theorem lw_p66 : lw_okq (⟨"PatternDeskModel", "newVar", "(I)I"⟩, 90) := ⟨⟨by decide +kernel, by decide +kernel⟩, List.mem_of_getElem? (i := 1133) (by decide +kernel), List.mem_of_getElem? (i := 1491) (by decide +kernel), List.mem_of_getElem? (i := 1492) (by decide +kernel)⟩
theorem lw_p67 : lw_okq (⟨"PatternDeskModel", "mean", "(I)I"⟩, 90) := ⟨⟨by decide +kernel, by decide +kernel⟩, List.mem_of_getElem? (i := 1133) (by decide +kernel), List.mem_of_getElem? (i := 1495) (by decide +kernel), List.mem_of_getElem? (i := 1496) (by decide +kernel)⟩
theorem lw_p68 : lw_okq (⟨"PatternDeskModel", "sameName", "(II)Z"⟩, 90) := ⟨⟨by decide +kernel, by decide +kernel⟩, List.mem_of_getElem? (i := 1133) (by decide +kernel), List.mem_of_getElem? (i := 1499) (by decide +kernel), List.mem_of_getElem? (i := 1500) (by decide +kernel)⟩
theorem lw_p69 : lw_okq (⟨"PatternDeskModel", "constant", "(I)I"⟩, 90) := ⟨⟨by decide +kernel, by decide +kernel⟩, List.mem_of_getElem? (i := 1133) (by decide +kernel), List.mem_of_getElem? (i := 1503) (by decide +kernel), List.mem_of_getElem? (i := 1504) (by decide +kernel)⟩
theorem lw_p70 : lw_okq (⟨"PatternDeskModel", "unknown", "(I)I"⟩, 90) := ⟨⟨by decide +kernel, by decide +kernel⟩, List.mem_of_getElem? (i := 1133) (by decide +kernel), List.mem_of_getElem? (i := 1507) (by decide +kernel), List.mem_of_getElem? (i := 1508) (by decide +kernel)⟩
theorem lw_p71 : lw_okq (⟨"PatternDeskModel", "same", "(II)Z"⟩, 90) := ⟨⟨by decide +kernel, by decide +kernel⟩, List.mem_of_getElem? (i := 1133) (by decide +kernel), List.mem_of_getElem? (i := 1511) (by decide +kernel), List.mem_of_getElem? (i := 1512) (by decide +kernel)⟩
theorem lw_p72 : lw_okq (⟨"PatternDeskModel", "distinct", "(I)V"⟩, 90) := ⟨⟨by decide +kernel, by decide +kernel⟩, List.mem_of_getElem? (i := 1133) (by decide +kernel), List.mem_of_getElem? (i := 1515) (by decide +kernel), List.mem_of_getElem? (i := 1516) (by decide +kernel)⟩
theorem lw_p73 : lw_okq (⟨"PatternDeskModel", "build", "(I)I"⟩, 90) := ⟨⟨by decide +kernel, by decide +kernel⟩, List.mem_of_getElem? (i := 1133) (by decide +kernel), List.mem_of_getElem? (i := 1519) (by decide +kernel), List.mem_of_getElem? (i := 1520) (by decide +kernel)⟩
theorem lw_p74 : lw_okq (⟨"PatternDeskModel", "make", "(II)I"⟩, 90) := ⟨⟨by decide +kernel, by decide +kernel⟩, List.mem_of_getElem? (i := 1133) (by decide +kernel), List.mem_of_getElem? (i := 1523) (by decide +kernel), List.mem_of_getElem? (i := 1524) (by decide +kernel)⟩
theorem lw_p75 : lw_okq (⟨"PatternDeskModel", "variable", "(I)I"⟩, 90) := ⟨⟨by decide +kernel, by decide +kernel⟩, List.mem_of_getElem? (i := 1133) (by decide +kernel), List.mem_of_getElem? (i := 1527) (by decide +kernel), List.mem_of_getElem? (i := 1528) (by decide +kernel)⟩
theorem lw_p76 : lw_okq (⟨"PatternDeskModel", "append", "(II)V"⟩, 90) := ⟨⟨by decide +kernel, by decide +kernel⟩, List.mem_of_getElem? (i := 1133) (by decide +kernel), List.mem_of_getElem? (i := 1531) (by decide +kernel), List.mem_of_getElem? (i := 1532) (by decide +kernel)⟩
theorem lw_p77 : lw_okq (⟨"PatternDeskModel", "close", "(II)I"⟩, 90) := ⟨⟨by decide +kernel, by decide +kernel⟩, List.mem_of_getElem? (i := 1133) (by decide +kernel), List.mem_of_getElem? (i := 1535) (by decide +kernel), List.mem_of_getElem? (i := 1536) (by decide +kernel)⟩
theorem lw_p78 : lw_okq (⟨"PatternDeskModel", "longVar", "(I)I"⟩, 90) := ⟨⟨by decide +kernel, by decide +kernel⟩, List.mem_of_getElem? (i := 1133) (by decide +kernel), List.mem_of_getElem? (i := 1539) (by decide +kernel), List.mem_of_getElem? (i := 1540) (by decide +kernel)⟩
theorem lw_p79 : lw_okq (⟨"PatternDeskModel", "declare", "(I)V"⟩, 90) := ⟨⟨by decide +kernel, by decide +kernel⟩, List.mem_of_getElem? (i := 1133) (by decide +kernel), List.mem_of_getElem? (i := 1543) (by decide +kernel), List.mem_of_getElem? (i := 1544) (by decide +kernel)⟩
def lw_privs_5 : List (MethodName × Nat) := [(⟨"PatternDeskModel", "wrong", "(II)V"⟩, 90), (⟨"PatternDeskModel", "check", "(I)I"⟩, 90), (⟨"PatternDeskModel", "newVar", "(I)I"⟩, 90), (⟨"PatternDeskModel", "mean", "(I)I"⟩, 90), (⟨"PatternDeskModel", "sameName", "(II)Z"⟩, 90), (⟨"PatternDeskModel", "constant", "(I)I"⟩, 90), (⟨"PatternDeskModel", "unknown", "(I)I"⟩, 90), (⟨"PatternDeskModel", "same", "(II)Z"⟩, 90), (⟨"PatternDeskModel", "distinct", "(I)V"⟩, 90), (⟨"PatternDeskModel", "build", "(I)I"⟩, 90), (⟨"PatternDeskModel", "make", "(II)I"⟩, 90), (⟨"PatternDeskModel", "variable", "(I)I"⟩, 90), (⟨"PatternDeskModel", "append", "(II)V"⟩, 90), (⟨"PatternDeskModel", "close", "(II)I"⟩, 90), (⟨"PatternDeskModel", "longVar", "(I)I"⟩, 90), (⟨"PatternDeskModel", "declare", "(I)V"⟩, 90)]
theorem lw_r5 : ∀ q ∈ lw_privs_5, lw_okq q := List.forall_mem_cons.mpr ⟨lw_p64, List.forall_mem_cons.mpr ⟨lw_p65, List.forall_mem_cons.mpr ⟨lw_p66, List.forall_mem_cons.mpr ⟨lw_p67, List.forall_mem_cons.mpr ⟨lw_p68, List.forall_mem_cons.mpr ⟨lw_p69, List.forall_mem_cons.mpr ⟨lw_p70, List.forall_mem_cons.mpr ⟨lw_p71, List.forall_mem_cons.mpr ⟨lw_p72, List.forall_mem_cons.mpr ⟨lw_p73, List.forall_mem_cons.mpr ⟨lw_p74, List.forall_mem_cons.mpr ⟨lw_p75, List.forall_mem_cons.mpr ⟨lw_p76, List.forall_mem_cons.mpr ⟨lw_p77, List.forall_mem_cons.mpr ⟨lw_p78, List.forall_mem_cons.mpr ⟨lw_p79, fun _ h => absurd h List.not_mem_nil⟩⟩⟩⟩⟩⟩⟩⟩⟩⟩⟩⟩⟩⟩⟩⟩
theorem lw_p80 : lw_okq (⟨"PatternDeskModel", "newMeta", "()I"⟩, 90) := ⟨⟨by decide +kernel, by decide +kernel⟩, List.mem_of_getElem? (i := 1133) (by decide +kernel), List.mem_of_getElem? (i := 1559) (by decide +kernel), List.mem_of_getElem? (i := 1560) (by decide +kernel)⟩
theorem lw_p81 : lw_okq (⟨"PatternDeskModel", "addType", "(II)V"⟩, 90) := ⟨⟨by decide +kernel, by decide +kernel⟩, List.mem_of_getElem? (i := 1133) (by decide +kernel), List.mem_of_getElem? (i := 1563) (by decide +kernel), List.mem_of_getElem? (i := 1564) (by decide +kernel)⟩
theorem lw_p82 : lw_okq (⟨"PatternDeskModel", "unify", "(IIII)Z"⟩, 90) := ⟨⟨by decide +kernel, by decide +kernel⟩, List.mem_of_getElem? (i := 1133) (by decide +kernel), List.mem_of_getElem? (i := 1567) (by decide +kernel), List.mem_of_getElem? (i := 1568) (by decide +kernel)⟩
theorem lw_p83 : lw_okq (⟨"PatternDeskModel", "sameVars", "(IIII)Z"⟩, 90) := ⟨⟨by decide +kernel, by decide +kernel⟩, List.mem_of_getElem? (i := 1133) (by decide +kernel), List.mem_of_getElem? (i := 1571) (by decide +kernel), List.mem_of_getElem? (i := 1572) (by decide +kernel)⟩
theorem lw_p84 : lw_okq (⟨"PatternDeskModel", "varOf", "(III)I"⟩, 90) := ⟨⟨by decide +kernel, by decide +kernel⟩, List.mem_of_getElem? (i := 1133) (by decide +kernel), List.mem_of_getElem? (i := 1575) (by decide +kernel), List.mem_of_getElem? (i := 1576) (by decide +kernel)⟩
theorem lw_p85 : lw_okq (⟨"PatternDeskModel", "look", "(II)I"⟩, 90) := ⟨⟨by decide +kernel, by decide +kernel⟩, List.mem_of_getElem? (i := 1133) (by decide +kernel), List.mem_of_getElem? (i := 1579) (by decide +kernel), List.mem_of_getElem? (i := 1580) (by decide +kernel)⟩
theorem lw_p86 : lw_okq (⟨"PatternDeskModel", "enter", "(II)I"⟩, 90) := ⟨⟨by decide +kernel, by decide +kernel⟩, List.mem_of_getElem? (i := 1133) (by decide +kernel), List.mem_of_getElem? (i := 1583) (by decide +kernel), List.mem_of_getElem? (i := 1584) (by decide +kernel)⟩
theorem lw_p87 : lw_okq (⟨"PatternDeskModel", "name", "(III)I"⟩, 90) := ⟨⟨by decide +kernel, by decide +kernel⟩, List.mem_of_getElem? (i := 1133) (by decide +kernel), List.mem_of_getElem? (i := 1587) (by decide +kernel), List.mem_of_getElem? (i := 1588) (by decide +kernel)⟩
theorem lw_p88 : lw_okq (⟨"PatternDeskModel", "behind", "(II)I"⟩, 90) := ⟨⟨by decide +kernel, by decide +kernel⟩, List.mem_of_getElem? (i := 1133) (by decide +kernel), List.mem_of_getElem? (i := 1591) (by decide +kernel), List.mem_of_getElem? (i := 1592) (by decide +kernel)⟩
theorem lw_p89 : lw_okq (⟨"PatternDeskModel", "meet", "(IIII)Z"⟩, 90) := ⟨⟨by decide +kernel, by decide +kernel⟩, List.mem_of_getElem? (i := 1133) (by decide +kernel), List.mem_of_getElem? (i := 1595) (by decide +kernel), List.mem_of_getElem? (i := 1596) (by decide +kernel)⟩
theorem lw_p90 : lw_okq (⟨"PatternDeskModel", "actual", "(II)I"⟩, 90) := ⟨⟨by decide +kernel, by decide +kernel⟩, List.mem_of_getElem? (i := 1133) (by decide +kernel), List.mem_of_getElem? (i := 1599) (by decide +kernel), List.mem_of_getElem? (i := 1600) (by decide +kernel)⟩
theorem lw_p91 : lw_okq (⟨"PatternDeskModel", "keep", "(III)V"⟩, 90) := ⟨⟨by decide +kernel, by decide +kernel⟩, List.mem_of_getElem? (i := 1133) (by decide +kernel), List.mem_of_getElem? (i := 1603) (by decide +kernel), List.mem_of_getElem? (i := 1604) (by decide +kernel)⟩
theorem lw_p92 : lw_okq (⟨"PatternDeskModel", "assign", "(IIII)V"⟩, 90) := ⟨⟨by decide +kernel, by decide +kernel⟩, List.mem_of_getElem? (i := 1133) (by decide +kernel), List.mem_of_getElem? (i := 1607) (by decide +kernel), List.mem_of_getElem? (i := 1608) (by decide +kernel)⟩
theorem lw_p93 : lw_okq (⟨"PatternDeskModel", "join", "(IIII)Z"⟩, 90) := ⟨⟨by decide +kernel, by decide +kernel⟩, List.mem_of_getElem? (i := 1133) (by decide +kernel), List.mem_of_getElem? (i := 1611) (by decide +kernel), List.mem_of_getElem? (i := 1612) (by decide +kernel)⟩
theorem lw_p94 : lw_okq (⟨"PatternDeskModel", "bind", "(IIII)Z"⟩, 90) := ⟨⟨by decide +kernel, by decide +kernel⟩, List.mem_of_getElem? (i := 1133) (by decide +kernel), List.mem_of_getElem? (i := 1615) (by decide +kernel), List.mem_of_getElem? (i := 1616) (by decide +kernel)⟩
theorem lw_p95 : lw_okq (⟨"PatternDeskModel", "fits", "(IIIII)Z"⟩, 90) := ⟨⟨by decide +kernel, by decide +kernel⟩, List.mem_of_getElem? (i := 1133) (by decide +kernel), List.mem_of_getElem? (i := 1619) (by decide +kernel), List.mem_of_getElem? (i := 1620) (by decide +kernel)⟩
def lw_privs_6 : List (MethodName × Nat) := [(⟨"PatternDeskModel", "newMeta", "()I"⟩, 90), (⟨"PatternDeskModel", "addType", "(II)V"⟩, 90), (⟨"PatternDeskModel", "unify", "(IIII)Z"⟩, 90), (⟨"PatternDeskModel", "sameVars", "(IIII)Z"⟩, 90), (⟨"PatternDeskModel", "varOf", "(III)I"⟩, 90), (⟨"PatternDeskModel", "look", "(II)I"⟩, 90), (⟨"PatternDeskModel", "enter", "(II)I"⟩, 90), (⟨"PatternDeskModel", "name", "(III)I"⟩, 90), (⟨"PatternDeskModel", "behind", "(II)I"⟩, 90), (⟨"PatternDeskModel", "meet", "(IIII)Z"⟩, 90), (⟨"PatternDeskModel", "actual", "(II)I"⟩, 90), (⟨"PatternDeskModel", "keep", "(III)V"⟩, 90), (⟨"PatternDeskModel", "assign", "(IIII)V"⟩, 90), (⟨"PatternDeskModel", "join", "(IIII)Z"⟩, 90), (⟨"PatternDeskModel", "bind", "(IIII)Z"⟩, 90), (⟨"PatternDeskModel", "fits", "(IIIII)Z"⟩, 90)]
theorem lw_r6 : ∀ q ∈ lw_privs_6, lw_okq q := List.forall_mem_cons.mpr ⟨lw_p80, List.forall_mem_cons.mpr ⟨lw_p81, List.forall_mem_cons.mpr ⟨lw_p82, List.forall_mem_cons.mpr ⟨lw_p83, List.forall_mem_cons.mpr ⟨lw_p84, List.forall_mem_cons.mpr ⟨lw_p85, List.forall_mem_cons.mpr ⟨lw_p86, List.forall_mem_cons.mpr ⟨lw_p87, List.forall_mem_cons.mpr ⟨lw_p88, List.forall_mem_cons.mpr ⟨lw_p89, List.forall_mem_cons.mpr ⟨lw_p90, List.forall_mem_cons.mpr ⟨lw_p91, List.forall_mem_cons.mpr ⟨lw_p92, List.forall_mem_cons.mpr ⟨lw_p93, List.forall_mem_cons.mpr ⟨lw_p94, List.forall_mem_cons.mpr ⟨lw_p95, fun _ h => absurd h List.not_mem_nil⟩⟩⟩⟩⟩⟩⟩⟩⟩⟩⟩⟩⟩⟩⟩⟩
theorem lw_p96 : lw_okq (⟨"PatternDeskModel", "isIn", "(III)Z"⟩, 90) := ⟨⟨by decide +kernel, by decide +kernel⟩, List.mem_of_getElem? (i := 1133) (by decide +kernel), List.mem_of_getElem? (i := 1623) (by decide +kernel), List.mem_of_getElem? (i := 1624) (by decide +kernel)⟩
theorem lw_p97 : lw_okq (⟨"PatternDeskModel", "number", "()V"⟩, 90) := ⟨⟨by decide +kernel, by decide +kernel⟩, List.mem_of_getElem? (i := 1133) (by decide +kernel), List.mem_of_getElem? (i := 1627) (by decide +kernel), List.mem_of_getElem? (i := 1628) (by decide +kernel)⟩
theorem lw_p98 : lw_okq (⟨"PatternDeskModel", "writeUnknown", "(I)V"⟩, 90) := ⟨⟨by decide +kernel, by decide +kernel⟩, List.mem_of_getElem? (i := 1133) (by decide +kernel), List.mem_of_getElem? (i := 1631) (by decide +kernel), List.mem_of_getElem? (i := 1632) (by decide +kernel)⟩
theorem lw_p99 : lw_okq (⟨"PatternDeskModel", "lambda", "(II)V"⟩, 90) := ⟨⟨by decide +kernel, by decide +kernel⟩, List.mem_of_getElem? (i := 1133) (by decide +kernel), List.mem_of_getElem? (i := 1635) (by decide +kernel), List.mem_of_getElem? (i := 1636) (by decide +kernel)⟩
theorem lw_p100 : lw_okq (⟨"PatternDeskModel", "put", "(I)V"⟩, 90) := ⟨⟨by decide +kernel, by decide +kernel⟩, List.mem_of_getElem? (i := 1133) (by decide +kernel), List.mem_of_getElem? (i := 1639) (by decide +kernel), List.mem_of_getElem? (i := 1640) (by decide +kernel)⟩
theorem lw_p101 : lw_okq (⟨"PatternDeskModel", "putNumber", "(II)V"⟩, 90) := ⟨⟨by decide +kernel, by decide +kernel⟩, List.mem_of_getElem? (i := 1133) (by decide +kernel), List.mem_of_getElem? (i := 1643) (by decide +kernel), List.mem_of_getElem? (i := 1644) (by decide +kernel)⟩
theorem lw_p102 : lw_okq (⟨"PatternDeskModel", "write", "(III)V"⟩, 90) := ⟨⟨by decide +kernel, by decide +kernel⟩, List.mem_of_getElem? (i := 1133) (by decide +kernel), List.mem_of_getElem? (i := 1647) (by decide +kernel), List.mem_of_getElem? (i := 1648) (by decide +kernel)⟩
theorem lw_p103 : lw_okq (⟨"PatternDeskModel", "isFull", "()Z"⟩, 90) := ⟨⟨by decide +kernel, by decide +kernel⟩, List.mem_of_getElem? (i := 1133) (by decide +kernel), List.mem_of_getElem? (i := 1651) (by decide +kernel), List.mem_of_getElem? (i := 1652) (by decide +kernel)⟩
theorem lw_p104 : lw_okq (⟨"PatternDeskModel", "writeFresh", "(III)V"⟩, 90) := ⟨⟨by decide +kernel, by decide +kernel⟩, List.mem_of_getElem? (i := 1133) (by decide +kernel), List.mem_of_getElem? (i := 1655) (by decide +kernel), List.mem_of_getElem? (i := 1656) (by decide +kernel)⟩
theorem lw_p105 : lw_okq (⟨"PatternDeskModel", "writeVar", "(II)V"⟩, 90) := ⟨⟨by decide +kernel, by decide +kernel⟩, List.mem_of_getElem? (i := 1133) (by decide +kernel), List.mem_of_getElem? (i := 1659) (by decide +kernel), List.mem_of_getElem? (i := 1660) (by decide +kernel)⟩
theorem lw_p106 : lw_okq (⟨"PatternDeskModel", "putName", "(I)V"⟩, 90) := ⟨⟨by decide +kernel, by decide +kernel⟩, List.mem_of_getElem? (i := 1133) (by decide +kernel), List.mem_of_getElem? (i := 1663) (by decide +kernel), List.mem_of_getElem? (i := 1664) (by decide +kernel)⟩
theorem lw_p107 : lw_okq (⟨"PatternDeskModel", "hasParts", "(II)Z"⟩, 90) := ⟨⟨by decide +kernel, by decide +kernel⟩, List.mem_of_getElem? (i := 1133) (by decide +kernel), List.mem_of_getElem? (i := 1667) (by decide +kernel), List.mem_of_getElem? (i := 1668) (by decide +kernel)⟩
theorem lw_p108 : lw_okq (⟨"PatternDeskModel", "papers", "(IZI)I"⟩, 90) := ⟨⟨by decide +kernel, by decide +kernel⟩, List.mem_of_getElem? (i := 1133) (by decide +kernel), List.mem_of_getElem? (i := 1679) (by decide +kernel), List.mem_of_getElem? (i := 1680) (by decide +kernel)⟩
def lw_privs_7 : List (MethodName × Nat) := [(⟨"PatternDeskModel", "isIn", "(III)Z"⟩, 90), (⟨"PatternDeskModel", "number", "()V"⟩, 90), (⟨"PatternDeskModel", "writeUnknown", "(I)V"⟩, 90), (⟨"PatternDeskModel", "lambda", "(II)V"⟩, 90), (⟨"PatternDeskModel", "put", "(I)V"⟩, 90), (⟨"PatternDeskModel", "putNumber", "(II)V"⟩, 90), (⟨"PatternDeskModel", "write", "(III)V"⟩, 90), (⟨"PatternDeskModel", "isFull", "()Z"⟩, 90), (⟨"PatternDeskModel", "writeFresh", "(III)V"⟩, 90), (⟨"PatternDeskModel", "writeVar", "(II)V"⟩, 90), (⟨"PatternDeskModel", "putName", "(I)V"⟩, 90), (⟨"PatternDeskModel", "hasParts", "(II)Z"⟩, 90), (⟨"PatternDeskModel", "papers", "(IZI)I"⟩, 90)]
theorem lw_r7 : ∀ q ∈ lw_privs_7, lw_okq q := List.forall_mem_cons.mpr ⟨lw_p96, List.forall_mem_cons.mpr ⟨lw_p97, List.forall_mem_cons.mpr ⟨lw_p98, List.forall_mem_cons.mpr ⟨lw_p99, List.forall_mem_cons.mpr ⟨lw_p100, List.forall_mem_cons.mpr ⟨lw_p101, List.forall_mem_cons.mpr ⟨lw_p102, List.forall_mem_cons.mpr ⟨lw_p103, List.forall_mem_cons.mpr ⟨lw_p104, List.forall_mem_cons.mpr ⟨lw_p105, List.forall_mem_cons.mpr ⟨lw_p106, List.forall_mem_cons.mpr ⟨lw_p107, List.forall_mem_cons.mpr ⟨lw_p108, fun _ h => absurd h List.not_mem_nil⟩⟩⟩⟩⟩⟩⟩⟩⟩⟩⟩⟩⟩
def lw_privs : List (MethodName × Nat) := lw_privs_1 ++ (lw_privs_2 ++ (lw_privs_3 ++ (lw_privs_4 ++ (lw_privs_5 ++ (lw_privs_6 ++ (lw_privs_7))))))
def lw_tbl : List Cond := k2_sels lw_privs ++ tables_1
theorem lw_privs_ok : ∀ q ∈ lw_privs, lw_okq q := by
  show ∀ q ∈ lw_privs_1 ++ (lw_privs_2 ++ (lw_privs_3 ++ (lw_privs_4 ++ (lw_privs_5 ++ (lw_privs_6 ++ (lw_privs_7)))))), lw_okq q
  exact List.forall_mem_append.mpr ⟨lw_r1, List.forall_mem_append.mpr ⟨lw_r2, List.forall_mem_append.mpr ⟨lw_r3, List.forall_mem_append.mpr ⟨lw_r4, List.forall_mem_append.mpr ⟨lw_r5, List.forall_mem_append.mpr ⟨lw_r6, lw_r7⟩⟩⟩⟩⟩⟩
end
section
def RX0 : String := "PatternDesk$Answers"
def TX0 : u_T := fun k => match k with
  | 0 => ("PatternDesk$Answers", "terms", "LPatternDesk$Terms;", true)
  | 1 => ("PatternDesk$Answers", "levels", "LPatternDesk$Levels;", true)
  | 2 => ("PatternDesk$Answers", "bodies", "[I", true)
  | 3 => ("PatternDesk$Answers", "pairs", "[I", true)
  | 4 => ("PatternDesk$Answers", "pairVariables", "[I", true)
  | 5 => ("PatternDesk$Answers", "pairArguments", "[I", true)
  | 6 => ("PatternDesk$Answers", "rows", "I", false)
  | 7 => ("PatternDesk$Answers", "node", "I", false)
  | _ => ("PatternDesk$Answers", "chain", "I", false)
def tyX0 : Nat → FieldType := fun k => match k with
  | 0 => .object "PatternDesk$Terms"
  | 1 => .object "PatternDesk$Levels"
  | 2 => .array .int
  | 3 => .array .int
  | 4 => .array .int
  | 5 => .array .int
  | 6 => .int
  | 7 => .int
  | _ => .int
abbrev wsX00 : List Cond := u_ws RX0 TX0 9
theorem nmX0 : ∀ a, a < 9 → ∀ b, b < 9 → a ≠ b → (TX0 a).2.1 ≠ (TX0 b).2.1 := by decide +kernel
theorem tyX0_ok : ∀ k, k < 9 → parseFieldDescriptor (TX0 k).2.2.1 = some (tyX0 k) := by decide +kernel
abbrev cX0_init : ByteArray := prog_2_method_1_code
def yX0_init : MethodName := ⟨RX0, "<init>", "(LPatternDesk$Terms;LPatternDesk$Levels;)V"⟩
abbrev cX0_clear : ByteArray := prog_2_method_2_code
def yX0_clear : MethodName := ⟨RX0, "clear", "(I)V"⟩
abbrev cX0_node : ByteArray := prog_2_method_3_code
def yX0_node : MethodName := ⟨RX0, "node", "()I"⟩
abbrev cX0_chain : ByteArray := prog_2_method_4_code
def yX0_chain : MethodName := ⟨RX0, "chain", "()I"⟩
abbrev cX0_body : ByteArray := prog_2_method_5_code
def yX0_body : MethodName := ⟨RX0, "body", "(I)I"⟩
abbrev cX0_settle : ByteArray := prog_2_method_6_code
def yX0_settle : MethodName := ⟨RX0, "settle", "(II)V"⟩
abbrev cX0_inside : ByteArray := prog_2_method_7_code
def yX0_inside : MethodName := ⟨RX0, "inside", "(II)I"⟩
abbrev cX0_bind : ByteArray := prog_2_method_8_code
def yX0_bind : MethodName := ⟨RX0, "bind", "(II)V"⟩
abbrev cX0_addPair : ByteArray := prog_2_method_9_code
def yX0_addPair : MethodName := ⟨RX0, "addPair", "(III)V"⟩
abbrev cX0_narrow : ByteArray := prog_2_method_10_code
def yX0_narrow : MethodName := ⟨RX0, "narrow", "(II)V"⟩
def RX1 : String := "PatternDesk$Checker"
def TX1 : u_T := fun k => match k with
  | 0 => ("PatternDesk$Checker", "tokens", "LPatternDesk$Tokens;", true)
  | 1 => ("PatternDesk$Checker", "types", "LPatternDesk$Types;", true)
  | 2 => ("PatternDesk$Checker", "terms", "LPatternDesk$Terms;", true)
  | 3 => ("PatternDesk$Checker", "constants", "LPatternDesk$Names;", true)
  | 4 => ("PatternDesk$Checker", "unknowns", "LPatternDesk$Names;", true)
  | 5 => ("PatternDesk$Checker", "unknownRoots", "[I", true)
  | 6 => ("PatternDesk$Checker", "sideRoots", "[I", true)
  | 7 => ("PatternDesk$Checker", "scopeNames", "[I", true)
  | 8 => ("PatternDesk$Checker", "scopeVariables", "[I", true)
  | 9 => ("PatternDesk$Checker", "scoped", "I", false)
  | 10 => ("PatternDesk$Checker", "equations", "I", false)
  | 11 => ("PatternDesk$Checker", "at", "I", false)
  | 12 => ("PatternDesk$Checker", "lastType", "I", false)
  | 13 => ("PatternDesk$Checker", "place", "I", false)
  | _ => ("PatternDesk$Checker", "number", "I", false)
def tyX1 : Nat → FieldType := fun k => match k with
  | 0 => .object "PatternDesk$Tokens"
  | 1 => .object "PatternDesk$Types"
  | 2 => .object "PatternDesk$Terms"
  | 3 => .object "PatternDesk$Names"
  | 4 => .object "PatternDesk$Names"
  | 5 => .array .int
  | 6 => .array .int
  | 7 => .array .int
  | 8 => .array .int
  | 9 => .int
  | 10 => .int
  | 11 => .int
  | 12 => .int
  | 13 => .int
  | _ => .int
abbrev wsX10 : List Cond := u_ws RX1 TX1 15
theorem nmX1 : ∀ a, a < 15 → ∀ b, b < 15 → a ≠ b → (TX1 a).2.1 ≠ (TX1 b).2.1 := by decide +kernel
theorem tyX1_ok : ∀ k, k < 15 → parseFieldDescriptor (TX1 k).2.2.1 = some (tyX1 k) := by decide +kernel
abbrev cX1_init : ByteArray := prog_3_method_1_code
def yX1_init : MethodName := ⟨RX1, "<init>", "(LPatternDesk$Tokens;LPatternDesk$Types;LPatternDesk$Terms;)V"⟩
abbrev cX1_accepts : ByteArray := prog_3_method_2_code
def yX1_accepts : MethodName := ⟨RX1, "accepts", "()Z"⟩
abbrev cX1_place : ByteArray := prog_3_method_3_code
def yX1_place : MethodName := ⟨RX1, "place", "()I"⟩
abbrev cX1_number : ByteArray := prog_3_method_4_code
def yX1_number : MethodName := ⟨RX1, "number", "()I"⟩
abbrev cX1_constants : ByteArray := prog_3_method_5_code
def yX1_constants : MethodName := ⟨RX1, "constants", "()I"⟩
abbrev cX1_unknowns : ByteArray := prog_3_method_6_code
def yX1_unknowns : MethodName := ⟨RX1, "unknowns", "()I"⟩
abbrev cX1_equations : ByteArray := prog_3_method_7_code
def yX1_equations : MethodName := ⟨RX1, "equations", "()I"⟩
abbrev cX1_unknownRoot : ByteArray := prog_3_method_8_code
def yX1_unknownRoot : MethodName := ⟨RX1, "unknownRoot", "(I)I"⟩
abbrev cX1_sideRoot : ByteArray := prog_3_method_9_code
def yX1_sideRoot : MethodName := ⟨RX1, "sideRoot", "(II)I"⟩
abbrev cX1_constantLength : ByteArray := prog_3_method_10_code
def yX1_constantLength : MethodName := ⟨RX1, "constantLength", "(I)I"⟩
abbrev cX1_constantByte : ByteArray := prog_3_method_11_code
def yX1_constantByte : MethodName := ⟨RX1, "constantByte", "(II)I"⟩
abbrev cX1_blame : ByteArray := prog_3_method_12_code
def yX1_blame : MethodName := ⟨RX1, "blame", "(II)Z"⟩
abbrev cX1_declaration : ByteArray := prog_3_method_13_code
def yX1_declaration : MethodName := ⟨RX1, "declaration", "(LPatternDesk$Names;)Z"⟩
abbrev cX1_equation : ByteArray := prog_3_method_14_code
def yX1_equation : MethodName := ⟨RX1, "equation", "()Z"⟩
abbrev cX1_largeType : ByteArray := prog_3_method_15_code
def yX1_largeType : MethodName := ⟨RX1, "largeType", "()I"⟩
abbrev cX1_type : ByteArray := prog_3_method_16_code
def yX1_type : MethodName := ⟨RX1, "type", "(I)I"⟩
abbrev cX1_atom : ByteArray := prog_3_method_17_code
def yX1_atom : MethodName := ⟨RX1, "atom", "(I)I"⟩
abbrev cX1_term : ByteArray := prog_3_method_18_code
def yX1_term : MethodName := ⟨RX1, "term", "(I)I"⟩
abbrev cX1_abstraction : ByteArray := prog_3_method_19_code
def yX1_abstraction : MethodName := ⟨RX1, "abstraction", "(I)I"⟩
abbrev cX1_named : ByteArray := prog_3_method_20_code
def yX1_named : MethodName := ⟨RX1, "named", "(IZ)I"⟩
abbrev cX1_beginsArgument : ByteArray := prog_3_method_21_code
def yX1_beginsArgument : MethodName := ⟨RX1, "beginsArgument", "()Z"⟩
abbrev cX1_argument : ByteArray := prog_3_method_22_code
def yX1_argument : MethodName := ⟨RX1, "argument", "(I)I"⟩
abbrev cX1_meaning : ByteArray := prog_3_method_23_code
def yX1_meaning : MethodName := ⟨RX1, "meaning", "(I)I"⟩
abbrev cX1_gives : ByteArray := prog_3_method_24_code
def yX1_gives : MethodName := ⟨RX1, "gives", "(II)Z"⟩
def RX2 : String := "PatternDesk$Grammar"
def TX2 : u_T := fun k => match k with
  | 0 => ("PatternDesk$Grammar", "tokens", "LPatternDesk$Tokens;", true)
  | _ => ("PatternDesk$Grammar", "at", "I", false)
def tyX2 : Nat → FieldType := fun k => match k with
  | 0 => .object "PatternDesk$Tokens"
  | _ => .int
abbrev wsX20 : List Cond := u_ws RX2 TX2 2
theorem nmX2 : ∀ a, a < 2 → ∀ b, b < 2 → a ≠ b → (TX2 a).2.1 ≠ (TX2 b).2.1 := by decide +kernel
theorem tyX2_ok : ∀ k, k < 2 → parseFieldDescriptor (TX2 k).2.2.1 = some (tyX2 k) := by decide +kernel
abbrev cX2_init : ByteArray := prog_4_method_1_code
def yX2_init : MethodName := ⟨RX2, "<init>", "(LPatternDesk$Tokens;)V"⟩
abbrev cX2_accepts : ByteArray := prog_4_method_2_code
def yX2_accepts : MethodName := ⟨RX2, "accepts", "()Z"⟩
abbrev cX2_place : ByteArray := prog_4_method_3_code
def yX2_place : MethodName := ⟨RX2, "place", "()I"⟩
abbrev cX2_takes : ByteArray := prog_4_method_4_code
def yX2_takes : MethodName := ⟨RX2, "takes", "(I)Z"⟩
abbrev cX2_item : ByteArray := prog_4_method_5_code
def yX2_item : MethodName := ⟨RX2, "item", "()Z"⟩
abbrev cX2_type : ByteArray := prog_4_method_6_code
def yX2_type : MethodName := ⟨RX2, "type", "(I)Z"⟩
abbrev cX2_atom : ByteArray := prog_4_method_7_code
def yX2_atom : MethodName := ⟨RX2, "atom", "(I)Z"⟩
abbrev cX2_term : ByteArray := prog_4_method_8_code
def yX2_term : MethodName := ⟨RX2, "term", "(I)Z"⟩
abbrev cX2_arguments : ByteArray := prog_4_method_9_code
def yX2_arguments : MethodName := ⟨RX2, "arguments", "(I)Z"⟩
def RX3 : String := "PatternDesk$Levels"
def TX3 : u_T := fun k => match k with
  | 0 => ("PatternDesk$Levels", "variables", "[I", true)
  | 1 => ("PatternDesk$Levels", "levels", "[I", true)
  | 2 => ("PatternDesk$Levels", "rests", "[I", true)
  | _ => ("PatternDesk$Levels", "used", "I", false)
def tyX3 : Nat → FieldType := fun k => match k with
  | 0 => .array .int
  | 1 => .array .int
  | 2 => .array .int
  | _ => .int
abbrev wsX30 : List Cond := u_ws RX3 TX3 4
theorem nmX3 : ∀ a, a < 4 → ∀ b, b < 4 → a ≠ b → (TX3 a).2.1 ≠ (TX3 b).2.1 := by decide +kernel
theorem tyX3_ok : ∀ k, k < 4 → parseFieldDescriptor (TX3 k).2.2.1 = some (tyX3 k) := by decide +kernel
abbrev cX3_init : ByteArray := prog_5_method_1_code
def yX3_init : MethodName := ⟨RX3, "<init>", "()V"⟩
abbrev cX3_mark : ByteArray := prog_5_method_2_code
def yX3_mark : MethodName := ⟨RX3, "mark", "()I"⟩
abbrev cX3_release : ByteArray := prog_5_method_3_code
def yX3_release : MethodName := ⟨RX3, "release", "(I)V"⟩
abbrev cX3_with : ByteArray := prog_5_method_4_code
def yX3_with : MethodName := ⟨RX3, "with", "(III)I"⟩
abbrev cX3_of : ByteArray := prog_5_method_5_code
def yX3_of : MethodName := ⟨RX3, "of", "(II)I"⟩
abbrev cX3_variableAt : ByteArray := prog_5_method_6_code
def yX3_variableAt : MethodName := ⟨RX3, "variableAt", "(II)I"⟩
def RX4 : String := "PatternDesk$Names"
def TX4 : u_T := fun k => match k with
  | 0 => ("PatternDesk$Names", "names", "[I", true)
  | 1 => ("PatternDesk$Names", "types", "[I", true)
  | _ => ("PatternDesk$Names", "used", "I", false)
def tyX4 : Nat → FieldType := fun k => match k with
  | 0 => .array .int
  | 1 => .array .int
  | _ => .int
abbrev wsX40 : List Cond := u_ws RX4 TX4 3
theorem nmX4 : ∀ a, a < 3 → ∀ b, b < 3 → a ≠ b → (TX4 a).2.1 ≠ (TX4 b).2.1 := by decide +kernel
theorem tyX4_ok : ∀ k, k < 3 → parseFieldDescriptor (TX4 k).2.2.1 = some (tyX4 k) := by decide +kernel
abbrev cX4_init : ByteArray := prog_6_method_1_code
def yX4_init : MethodName := ⟨RX4, "<init>", "(I)V"⟩
abbrev cX4_clear : ByteArray := prog_6_method_2_code
def yX4_clear : MethodName := ⟨RX4, "clear", "()V"⟩
abbrev cX4_isFull : ByteArray := prog_6_method_3_code
def yX4_isFull : MethodName := ⟨RX4, "isFull", "()Z"⟩
abbrev cX4_total : ByteArray := prog_6_method_4_code
def yX4_total : MethodName := ⟨RX4, "total", "()I"⟩
abbrev cX4_add : ByteArray := prog_6_method_5_code
def yX4_add : MethodName := ⟨RX4, "add", "(II)V"⟩
abbrev cX4_find : ByteArray := prog_6_method_6_code
def yX4_find : MethodName := ⟨RX4, "find", "(LPatternDesk$Tokens;I)I"⟩
abbrev cX4_name : ByteArray := prog_6_method_7_code
def yX4_name : MethodName := ⟨RX4, "name", "(I)I"⟩
abbrev cX4_type : ByteArray := prog_6_method_8_code
def yX4_type : MethodName := ⟨RX4, "type", "(I)I"⟩
def RX5 : String := "PatternDesk$Pile"
def TX5 : u_T := fun k => match k with
  | 0 => ("PatternDesk$Pile", "nodes", "[I", true)
  | 1 => ("PatternDesk$Pile", "chains", "[I", true)
  | 2 => ("PatternDesk$Pile", "others", "[I", true)
  | 3 => ("PatternDesk$Pile", "otherChains", "[I", true)
  | 4 => ("PatternDesk$Pile", "levels", "[I", true)
  | 5 => ("PatternDesk$Pile", "marks", "[I", true)
  | _ => ("PatternDesk$Pile", "used", "I", false)
def tyX5 : Nat → FieldType := fun k => match k with
  | 0 => .array .int
  | 1 => .array .int
  | 2 => .array .int
  | 3 => .array .int
  | 4 => .array .int
  | 5 => .array .int
  | _ => .int
abbrev wsX50 : List Cond := u_ws RX5 TX5 7
theorem nmX5 : ∀ a, a < 7 → ∀ b, b < 7 → a ≠ b → (TX5 a).2.1 ≠ (TX5 b).2.1 := by decide +kernel
theorem tyX5_ok : ∀ k, k < 7 → parseFieldDescriptor (TX5 k).2.2.1 = some (tyX5 k) := by decide +kernel
abbrev cX5_init : ByteArray := prog_7_method_1_code
def yX5_init : MethodName := ⟨RX5, "<init>", "()V"⟩
abbrev cX5_clear : ByteArray := prog_7_method_2_code
def yX5_clear : MethodName := ⟨RX5, "clear", "()V"⟩
abbrev cX5_isEmpty : ByteArray := prog_7_method_3_code
def yX5_isEmpty : MethodName := ⟨RX5, "isEmpty", "()Z"⟩
abbrev cX5_push : ByteArray := prog_7_method_4_code
def yX5_push : MethodName := ⟨RX5, "push", "(IIII)V"⟩
abbrev cX5_pushPair : ByteArray := prog_7_method_5_code
def yX5_pushPair : MethodName := ⟨RX5, "pushPair", "(IIIIII)V"⟩
abbrev cX5_pop : ByteArray := prog_7_method_6_code
def yX5_pop : MethodName := ⟨RX5, "pop", "()V"⟩
abbrev cX5_node : ByteArray := prog_7_method_7_code
def yX5_node : MethodName := ⟨RX5, "node", "()I"⟩
abbrev cX5_chain : ByteArray := prog_7_method_8_code
def yX5_chain : MethodName := ⟨RX5, "chain", "()I"⟩
abbrev cX5_other : ByteArray := prog_7_method_9_code
def yX5_other : MethodName := ⟨RX5, "other", "()I"⟩
abbrev cX5_otherChain : ByteArray := prog_7_method_10_code
def yX5_otherChain : MethodName := ⟨RX5, "otherChain", "()I"⟩
abbrev cX5_level : ByteArray := prog_7_method_11_code
def yX5_level : MethodName := ⟨RX5, "level", "()I"⟩
abbrev cX5_mark : ByteArray := prog_7_method_12_code
def yX5_mark : MethodName := ⟨RX5, "mark", "()I"⟩
def RX6 : String := "PatternDesk$Solver"
def TX6 : u_T := fun k => match k with
  | 0 => ("PatternDesk$Solver", "terms", "LPatternDesk$Terms;", true)
  | 1 => ("PatternDesk$Solver", "levels", "LPatternDesk$Levels;", true)
  | 2 => ("PatternDesk$Solver", "answers", "LPatternDesk$Answers;", true)
  | 3 => ("PatternDesk$Solver", "pairs", "LPatternDesk$Pile;", true)
  | 4 => ("PatternDesk$Solver", "walk", "LPatternDesk$Pile;", true)
  | 5 => ("PatternDesk$Solver", "seen", "[I", true)
  | 6 => ("PatternDesk$Solver", "own", "[I", true)
  | 7 => ("PatternDesk$Solver", "self", "I", false)
  | 8 => ("PatternDesk$Solver", "node", "I", false)
  | 9 => ("PatternDesk$Solver", "chain", "I", false)
  | 10 => ("PatternDesk$Solver", "other", "I", false)
  | 11 => ("PatternDesk$Solver", "otherChain", "I", false)
  | _ => ("PatternDesk$Solver", "level", "I", false)
def tyX6 : Nat → FieldType := fun k => match k with
  | 0 => .object "PatternDesk$Terms"
  | 1 => .object "PatternDesk$Levels"
  | 2 => .object "PatternDesk$Answers"
  | 3 => .object "PatternDesk$Pile"
  | 4 => .object "PatternDesk$Pile"
  | 5 => .array .int
  | 6 => .array .int
  | 7 => .int
  | 8 => .int
  | 9 => .int
  | 10 => .int
  | 11 => .int
  | _ => .int
abbrev wsX60 : List Cond := u_ws RX6 TX6 13
theorem nmX6 : ∀ a, a < 13 → ∀ b, b < 13 → a ≠ b → (TX6 a).2.1 ≠ (TX6 b).2.1 := by decide +kernel
theorem tyX6_ok : ∀ k, k < 13 → parseFieldDescriptor (TX6 k).2.2.1 = some (tyX6 k) := by decide +kernel
abbrev cX6_init : ByteArray := prog_8_method_1_code
def yX6_init : MethodName := ⟨RX6, "<init>", "(LPatternDesk$Terms;LPatternDesk$Levels;LPatternDesk$Answers;)V"⟩
abbrev cX6_unifies : ByteArray := prog_8_method_2_code
def yX6_unifies : MethodName := ⟨RX6, "unifies", "(LPatternDesk$Checker;)Z"⟩
abbrev cX6_step : ByteArray := prog_8_method_3_code
def yX6_step : MethodName := ⟨RX6, "step", "()Z"⟩
abbrev cX6_takePair : ByteArray := prog_8_method_4_code
def yX6_takePair : MethodName := ⟨RX6, "takePair", "()V"⟩
abbrev cX6_swap : ByteArray := prog_8_method_5_code
def yX6_swap : MethodName := ⟨RX6, "swap", "()V"⟩
abbrev cX6_isUnknown : ByteArray := prog_8_method_6_code
def yX6_isUnknown : MethodName := ⟨RX6, "isUnknown", "(I)Z"⟩
abbrev cX6_allArguments : ByteArray := prog_8_method_7_code
def yX6_allArguments : MethodName := ⟨RX6, "allArguments", "(I)I"⟩
abbrev cX6_equalArguments : ByteArray := prog_8_method_8_code
def yX6_equalArguments : MethodName := ⟨RX6, "equalArguments", "()I"⟩
abbrev cX6_meet : ByteArray := prog_8_method_9_code
def yX6_meet : MethodName := ⟨RX6, "meet", "()V"⟩
abbrev cX6_takeApart : ByteArray := prog_8_method_10_code
def yX6_takeApart : MethodName := ⟨RX6, "takeApart", "()Z"⟩
abbrev cX6_give : ByteArray := prog_8_method_11_code
def yX6_give : MethodName := ⟨RX6, "give", "()Z"⟩
abbrev cX6_fitStep : ByteArray := prog_8_method_12_code
def yX6_fitStep : MethodName := ⟨RX6, "fitStep", "()Z"⟩
abbrev cX6_fitUnknown : ByteArray := prog_8_method_13_code
def yX6_fitUnknown : MethodName := ⟨RX6, "fitUnknown", "(III)Z"⟩
abbrev cX6_allowedArguments : ByteArray := prog_8_method_14_code
def yX6_allowedArguments : MethodName := ⟨RX6, "allowedArguments", "(II)I"⟩
abbrev cX6_isAllowed : ByteArray := prog_8_method_15_code
def yX6_isAllowed : MethodName := ⟨RX6, "isAllowed", "(I)Z"⟩
def RX7 : String := "PatternDesk$Terms"
def TX7 : u_T := fun k => match k with
  | 0 => ("PatternDesk$Terms", "types", "LPatternDesk$Types;", true)
  | 1 => ("PatternDesk$Terms", "kinds", "[I", true)
  | 2 => ("PatternDesk$Terms", "heads", "[I", true)
  | 3 => ("PatternDesk$Terms", "firsts", "[I", true)
  | 4 => ("PatternDesk$Terms", "nexts", "[I", true)
  | 5 => ("PatternDesk$Terms", "arities", "[I", true)
  | 6 => ("PatternDesk$Terms", "nodes", "I", false)
  | 7 => ("PatternDesk$Terms", "variableTypes", "[I", true)
  | _ => ("PatternDesk$Terms", "variables", "I", false)
def tyX7 : Nat → FieldType := fun k => match k with
  | 0 => .object "PatternDesk$Types"
  | 1 => .array .int
  | 2 => .array .int
  | 3 => .array .int
  | 4 => .array .int
  | 5 => .array .int
  | 6 => .int
  | 7 => .array .int
  | _ => .int
abbrev wsX70 : List Cond := u_ws RX7 TX7 9
theorem nmX7 : ∀ a, a < 9 → ∀ b, b < 9 → a ≠ b → (TX7 a).2.1 ≠ (TX7 b).2.1 := by decide +kernel
theorem tyX7_ok : ∀ k, k < 9 → parseFieldDescriptor (TX7 k).2.2.1 = some (tyX7 k) := by decide +kernel
abbrev cX7_init : ByteArray := prog_9_method_1_code
def yX7_init : MethodName := ⟨RX7, "<init>", "(LPatternDesk$Types;)V"⟩
abbrev cX7_clear : ByteArray := prog_9_method_2_code
def yX7_clear : MethodName := ⟨RX7, "clear", "()V"⟩
abbrev cX7_variable : ByteArray := prog_9_method_3_code
def yX7_variable : MethodName := ⟨RX7, "variable", "(I)I"⟩
abbrev cX7_variableType : ByteArray := prog_9_method_4_code
def yX7_variableType : MethodName := ⟨RX7, "variableType", "(I)I"⟩
abbrev cX7_node : ByteArray := prog_9_method_5_code
def yX7_node : MethodName := ⟨RX7, "node", "(II)I"⟩
abbrev cX7_lambda : ByteArray := prog_9_method_6_code
def yX7_lambda : MethodName := ⟨RX7, "lambda", "(II)I"⟩
abbrev cX7_append : ByteArray := prog_9_method_7_code
def yX7_append : MethodName := ⟨RX7, "append", "(II)V"⟩
abbrev cX7_kind : ByteArray := prog_9_method_8_code
def yX7_kind : MethodName := ⟨RX7, "kind", "(I)I"⟩
abbrev cX7_head : ByteArray := prog_9_method_9_code
def yX7_head : MethodName := ⟨RX7, "head", "(I)I"⟩
abbrev cX7_body : ByteArray := prog_9_method_10_code
def yX7_body : MethodName := ⟨RX7, "body", "(I)I"⟩
abbrev cX7_arity : ByteArray := prog_9_method_11_code
def yX7_arity : MethodName := ⟨RX7, "arity", "(I)I"⟩
abbrev cX7_argument : ByteArray := prog_9_method_12_code
def yX7_argument : MethodName := ⟨RX7, "argument", "(II)I"⟩
abbrev cX7_hasVariable : ByteArray := prog_9_method_13_code
def yX7_hasVariable : MethodName := ⟨RX7, "hasVariable", "(II)Z"⟩
abbrev cX7_complete : ByteArray := prog_9_method_14_code
def yX7_complete : MethodName := ⟨RX7, "complete", "(III)I"⟩
abbrev cX7_asVariable : ByteArray := prog_9_method_15_code
def yX7_asVariable : MethodName := ⟨RX7, "asVariable", "(II)I"⟩
def RX8 : String := "PatternDesk$Tokens"
def TX8 : u_T := fun k => match k with
  | 0 => ("PatternDesk$Tokens", "bytes", "[I", true)
  | 1 => ("PatternDesk$Tokens", "kinds", "[I", true)
  | 2 => ("PatternDesk$Tokens", "starts", "[I", true)
  | 3 => ("PatternDesk$Tokens", "ends", "[I", true)
  | 4 => ("PatternDesk$Tokens", "length", "I", false)
  | _ => ("PatternDesk$Tokens", "total", "I", false)
def tyX8 : Nat → FieldType := fun k => match k with
  | 0 => .array .int
  | 1 => .array .int
  | 2 => .array .int
  | 3 => .array .int
  | 4 => .int
  | _ => .int
abbrev wsX80 : List Cond := u_ws RX8 TX8 6
theorem nmX8 : ∀ a, a < 6 → ∀ b, b < 6 → a ≠ b → (TX8 a).2.1 ≠ (TX8 b).2.1 := by decide +kernel
theorem tyX8_ok : ∀ k, k < 6 → parseFieldDescriptor (TX8 k).2.2.1 = some (tyX8 k) := by decide +kernel
abbrev cX8_init : ByteArray := prog_10_method_1_code
def yX8_init : MethodName := ⟨RX8, "<init>", "()V"⟩
abbrev cX8_read : ByteArray := prog_10_method_2_code
def yX8_read : MethodName := ⟨RX8, "read", "([II)V"⟩
abbrev cX8_kind : ByteArray := prog_10_method_3_code
def yX8_kind : MethodName := ⟨RX8, "kind", "(I)I"⟩
abbrev cX8_start : ByteArray := prog_10_method_4_code
def yX8_start : MethodName := ⟨RX8, "start", "(I)I"⟩
abbrev cX8_nameLength : ByteArray := prog_10_method_5_code
def yX8_nameLength : MethodName := ⟨RX8, "nameLength", "(I)I"⟩
abbrev cX8_nameByte : ByteArray := prog_10_method_6_code
def yX8_nameByte : MethodName := ⟨RX8, "nameByte", "(II)I"⟩
abbrev cX8_sameName : ByteArray := prog_10_method_7_code
def yX8_sameName : MethodName := ⟨RX8, "sameName", "(II)Z"⟩
abbrev cX8_readToken : ByteArray := prog_10_method_8_code
def yX8_readToken : MethodName := ⟨RX8, "readToken", "(I)I"⟩
abbrev cX8_signAt : ByteArray := prog_10_method_9_code
def yX8_signAt : MethodName := ⟨RX8, "signAt", "(I)I"⟩
abbrev cX8_wordEnd : ByteArray := prog_10_method_10_code
def yX8_wordEnd : MethodName := ⟨RX8, "wordEnd", "(I)I"⟩
abbrev cX8_wordKind : ByteArray := prog_10_method_11_code
def yX8_wordKind : MethodName := ⟨RX8, "wordKind", "(II)I"⟩
abbrev cX8_spells : ByteArray := prog_10_method_12_code
def yX8_spells : MethodName := ⟨RX8, "spells", "(IILjava/lang/String;)Z"⟩
abbrev cX8_isBlank : ByteArray := prog_10_method_13_code
def yX8_isBlank : MethodName := ⟨RX8, "isBlank", "(I)Z"⟩
abbrev cX8_isLetter : ByteArray := prog_10_method_14_code
def yX8_isLetter : MethodName := ⟨RX8, "isLetter", "(I)Z"⟩
abbrev cX8_isWordByte : ByteArray := prog_10_method_15_code
def yX8_isWordByte : MethodName := ⟨RX8, "isWordByte", "(I)Z"⟩
def RX9 : String := "PatternDesk$Types"
def TX9 : u_T := fun k => match k with
  | 0 => ("PatternDesk$Types", "from", "[I", true)
  | 1 => ("PatternDesk$Types", "to", "[I", true)
  | _ => ("PatternDesk$Types", "used", "I", false)
def tyX9 : Nat → FieldType := fun k => match k with
  | 0 => .array .int
  | 1 => .array .int
  | _ => .int
abbrev wsX90 : List Cond := u_ws RX9 TX9 3
theorem nmX9 : ∀ a, a < 3 → ∀ b, b < 3 → a ≠ b → (TX9 a).2.1 ≠ (TX9 b).2.1 := by decide +kernel
theorem tyX9_ok : ∀ k, k < 3 → parseFieldDescriptor (TX9 k).2.2.1 = some (tyX9 k) := by decide +kernel
abbrev cX9_init : ByteArray := prog_11_method_1_code
def yX9_init : MethodName := ⟨RX9, "<init>", "()V"⟩
abbrev cX9_clear : ByteArray := prog_11_method_2_code
def yX9_clear : MethodName := ⟨RX9, "clear", "()V"⟩
abbrev cX9_isArrow : ByteArray := prog_11_method_3_code
def yX9_isArrow : MethodName := ⟨RX9, "isArrow", "(I)Z"⟩
abbrev cX9_from : ByteArray := prog_11_method_4_code
def yX9_from : MethodName := ⟨RX9, "from", "(I)I"⟩
abbrev cX9_to : ByteArray := prog_11_method_5_code
def yX9_to : MethodName := ⟨RX9, "to", "(I)I"⟩
abbrev cX9_arrow : ByteArray := prog_11_method_6_code
def yX9_arrow : MethodName := ⟨RX9, "arrow", "(II)I"⟩
def RX10 : String := "PatternDesk$Writer"
def TX10 : u_T := fun k => match k with
  | 0 => ("PatternDesk$Writer", "text", "LPatternDesk$Checker;", true)
  | 1 => ("PatternDesk$Writer", "types", "LPatternDesk$Types;", true)
  | 2 => ("PatternDesk$Writer", "terms", "LPatternDesk$Terms;", true)
  | 3 => ("PatternDesk$Writer", "levels", "LPatternDesk$Levels;", true)
  | 4 => ("PatternDesk$Writer", "answers", "LPatternDesk$Answers;", true)
  | 5 => ("PatternDesk$Writer", "pile", "LPatternDesk$Pile;", true)
  | 6 => ("PatternDesk$Writer", "numbers", "[I", true)
  | 7 => ("PatternDesk$Writer", "orders", "[I", true)
  | 8 => ("PatternDesk$Writer", "numbered", "I", false)
  | 9 => ("PatternDesk$Writer", "ink", "[I", true)
  | 10 => ("PatternDesk$Writer", "inked", "I", false)
  | _ => ("PatternDesk$Writer", "inkRoot", "I", false)
def tyX10 : Nat → FieldType := fun k => match k with
  | 0 => .object "PatternDesk$Checker"
  | 1 => .object "PatternDesk$Types"
  | 2 => .object "PatternDesk$Terms"
  | 3 => .object "PatternDesk$Levels"
  | 4 => .object "PatternDesk$Answers"
  | 5 => .object "PatternDesk$Pile"
  | 6 => .array .int
  | 7 => .array .int
  | 8 => .int
  | 9 => .array .int
  | 10 => .int
  | _ => .int
abbrev wsX100 : List Cond := u_ws RX10 TX10 12
theorem nmX10 : ∀ a, a < 12 → ∀ b, b < 12 → a ≠ b → (TX10 a).2.1 ≠ (TX10 b).2.1 := by decide +kernel
theorem tyX10_ok : ∀ k, k < 12 → parseFieldDescriptor (TX10 k).2.2.1 = some (tyX10 k) := by decide +kernel
abbrev cX10_init : ByteArray := prog_12_method_1_code
def yX10_init : MethodName := ⟨RX10, "<init>", "(LPatternDesk$Checker;LPatternDesk$Types;LPatternDesk$Terms;LPatternDesk$Levels;LPatternDesk$Answers;)V"⟩
abbrev cX10_ownUnknowns : ByteArray := prog_12_method_2_code
def yX10_ownUnknowns : MethodName := ⟨RX10, "ownUnknowns", "()I"⟩
abbrev cX10_byteAt : ByteArray := prog_12_method_3_code
def yX10_byteAt : MethodName := ⟨RX10, "byteAt", "(I)I"⟩
abbrev cX10_write : ByteArray := prog_12_method_4_code
def yX10_write : MethodName := ⟨RX10, "write", "(I)I"⟩
abbrev cX10_numberUnknowns : ByteArray := prog_12_method_5_code
def yX10_numberUnknowns : MethodName := ⟨RX10, "numberUnknowns", "()V"⟩
abbrev cX10_numberStep : ByteArray := prog_12_method_6_code
def yX10_numberStep : MethodName := ⟨RX10, "numberStep", "()V"⟩
abbrev cX10_orderArguments : ByteArray := prog_12_method_7_code
def yX10_orderArguments : MethodName := ⟨RX10, "orderArguments", "(II)V"⟩
abbrev cX10_argumentLevel : ByteArray := prog_12_method_8_code
def yX10_argumentLevel : MethodName := ⟨RX10, "argumentLevel", "(III)I"⟩
abbrev cX10_writeStep : ByteArray := prog_12_method_9_code
def yX10_writeStep : MethodName := ⟨RX10, "writeStep", "()V"⟩
abbrev cX10_beginArgument : ByteArray := prog_12_method_10_code
def yX10_beginArgument : MethodName := ⟨RX10, "beginArgument", "(I)V"⟩
abbrev cX10_putHead : ByteArray := prog_12_method_11_code
def yX10_putHead : MethodName := ⟨RX10, "putHead", "(II)V"⟩
abbrev cX10_putUnknown : ByteArray := prog_12_method_12_code
def yX10_putUnknown : MethodName := ⟨RX10, "putUnknown", "(III)V"⟩
abbrev cX10_putVariable : ByteArray := prog_12_method_13_code
def yX10_putVariable : MethodName := ⟨RX10, "putVariable", "(IIII)V"⟩
abbrev cX10_putBinder : ByteArray := prog_12_method_14_code
def yX10_putBinder : MethodName := ⟨RX10, "putBinder", "(I)V"⟩
abbrev cX10_putNumber : ByteArray := prog_12_method_15_code
def yX10_putNumber : MethodName := ⟨RX10, "putNumber", "(I)V"⟩
abbrev cX10_put : ByteArray := prog_12_method_16_code
def yX10_put : MethodName := ⟨RX10, "put", "(I)V"⟩
def RX11 : String := "PatternDesk"
def TX11 : u_T := fun k => match k with
  | 0 => ("PatternDesk", "tape", "[I", true)
  | 1 => ("PatternDesk", "fed", "I", false)
  | 2 => ("PatternDesk", "hasText", "Z", false)
  | 3 => ("PatternDesk", "solved", "I", false)
  | 4 => ("PatternDesk", "toldPlace", "I", false)
  | 5 => ("PatternDesk", "toldNumber", "I", false)
  | 6 => ("PatternDesk", "tokens", "LPatternDesk$Tokens;", true)
  | 7 => ("PatternDesk", "grammar", "LPatternDesk$Grammar;", true)
  | 8 => ("PatternDesk", "checker", "LPatternDesk$Checker;", true)
  | 9 => ("PatternDesk", "solver", "LPatternDesk$Solver;", true)
  | _ => ("PatternDesk", "writer", "LPatternDesk$Writer;", true)
def tyX11 : Nat → FieldType := fun k => match k with
  | 0 => .array .int
  | 1 => .int
  | 2 => .boolean
  | 3 => .int
  | 4 => .int
  | 5 => .int
  | 6 => .object "PatternDesk$Tokens"
  | 7 => .object "PatternDesk$Grammar"
  | 8 => .object "PatternDesk$Checker"
  | 9 => .object "PatternDesk$Solver"
  | _ => .object "PatternDesk$Writer"
abbrev wsX110 : List Cond := u_ws RX11 TX11 11
theorem nmX11 : ∀ a, a < 11 → ∀ b, b < 11 → a ≠ b → (TX11 a).2.1 ≠ (TX11 b).2.1 := by decide +kernel
theorem tyX11_ok : ∀ k, k < 11 → parseFieldDescriptor (TX11 k).2.2.1 = some (tyX11 k) := by decide +kernel
abbrev cX11_init : ByteArray := prog_1_method_1_code
def yX11_init : MethodName := ⟨RX11, "<init>", "()V"⟩
abbrev cX11_feed : ByteArray := prog_1_method_2_code
def yX11_feed : MethodName := ⟨RX11, "feed", "(IIIII)I"⟩
abbrev cX11_load : ByteArray := prog_1_method_3_code
def yX11_load : MethodName := ⟨RX11, "load", "(I)I"⟩
abbrev cX11_told : ByteArray := prog_1_method_4_code
def yX11_told : MethodName := ⟨RX11, "told", "(I)I"⟩
abbrev cX11_count : ByteArray := prog_1_method_5_code
def yX11_count : MethodName := ⟨RX11, "count", "(I)I"⟩
abbrev cX11_solve : ByteArray := prog_1_method_6_code
def yX11_solve : MethodName := ⟨RX11, "solve", "()I"⟩
abbrev cX11_fresh : ByteArray := prog_1_method_7_code
def yX11_fresh : MethodName := ⟨RX11, "fresh", "()I"⟩
abbrev cX11_size : ByteArray := prog_1_method_8_code
def yX11_size : MethodName := ⟨RX11, "size", "(I)I"⟩
abbrev cX11_letter : ByteArray := prog_1_method_9_code
def yX11_letter : MethodName := ⟨RX11, "letter", "(II)I"⟩
abbrev cX11_side : ByteArray := prog_1_method_10_code
def yX11_side : MethodName := ⟨RX11, "side", "(II)I"⟩
abbrev cX11_sideLetter : ByteArray := prog_1_method_11_code
def yX11_sideLetter : MethodName := ⟨RX11, "sideLetter", "(III)I"⟩
abbrev cX11_hasSolution : ByteArray := prog_1_method_12_code
def yX11_hasSolution : MethodName := ⟨RX11, "hasSolution", "()Z"⟩
abbrev cX11_takeWord : ByteArray := prog_1_method_13_code
def yX11_takeWord : MethodName := ⟨RX11, "takeWord", "(I)V"⟩
def RX12 : String := "PatternDeskModel"
def TX12 : u_T := fun k => match k with
  | 0 => ("PatternDeskModel", "tape", "[I", true)
  | 1 => ("PatternDeskModel", "fed", "I", false)
  | 2 => ("PatternDeskModel", "text", "[I", true)
  | 3 => ("PatternDeskModel", "length", "I", false)
  | 4 => ("PatternDeskModel", "token", "[I", true)
  | 5 => ("PatternDeskModel", "place", "[I", true)
  | 6 => ("PatternDeskModel", "size", "[I", true)
  | 7 => ("PatternDeskModel", "now", "I", false)
  | 8 => ("PatternDeskModel", "bad", "Z", false)
  | 9 => ("PatternDeskModel", "types", "I", false)
  | 10 => ("PatternDeskModel", "left", "[I", true)
  | 11 => ("PatternDeskModel", "right", "[I", true)
  | 12 => ("PatternDeskModel", "reads", "I", false)
  | 13 => ("PatternDeskModel", "readKind", "[I", true)
  | 14 => ("PatternDeskModel", "readToken", "[I", true)
  | 15 => ("PatternDeskModel", "readType", "[I", true)
  | 16 => ("PatternDeskModel", "readTypeToken", "[I", true)
  | 17 => ("PatternDeskModel", "readAtoms", "[I", true)
  | 18 => ("PatternDeskModel", "readBracket", "[I", true)
  | 19 => ("PatternDeskModel", "readFirst", "[I", true)
  | 20 => ("PatternDeskModel", "readNext", "[I", true)
  | 21 => ("PatternDeskModel", "readMeans", "[I", true)
  | 22 => ("PatternDeskModel", "readSort", "[I", true)
  | 23 => ("PatternDeskModel", "readIs", "[I", true)
  | 24 => ("PatternDeskModel", "items", "I", false)
  | 25 => ("PatternDeskModel", "itemKind", "[I", true)
  | 26 => ("PatternDeskModel", "itemToken", "[I", true)
  | 27 => ("PatternDeskModel", "itemType", "[I", true)
  | 28 => ("PatternDeskModel", "itemTypeToken", "[I", true)
  | 29 => ("PatternDeskModel", "itemAtoms", "[I", true)
  | 30 => ("PatternDeskModel", "itemLeft", "[I", true)
  | 31 => ("PatternDeskModel", "itemRight", "[I", true)
  | 32 => ("PatternDeskModel", "itemSign", "[I", true)
  | 33 => ("PatternDeskModel", "atoms", "I", false)
  | 34 => ("PatternDeskModel", "around", "I", false)
  | 35 => ("PatternDeskModel", "aroundToken", "[I", true)
  | 36 => ("PatternDeskModel", "aroundVar", "[I", true)
  | 37 => ("PatternDeskModel", "isRight", "Z", false)
  | 38 => ("PatternDeskModel", "toldPlace", "I", false)
  | 39 => ("PatternDeskModel", "toldWhy", "I", false)
  | 40 => ("PatternDeskModel", "why", "I", false)
  | 41 => ("PatternDeskModel", "wrongAt", "I", false)
  | 42 => ("PatternDeskModel", "constants", "I", false)
  | 43 => ("PatternDeskModel", "constToken", "[I", true)
  | 44 => ("PatternDeskModel", "constType", "[I", true)
  | 45 => ("PatternDeskModel", "unknowns", "I", false)
  | 46 => ("PatternDeskModel", "metaToken", "[I", true)
  | 47 => ("PatternDeskModel", "eqs", "I", false)
  | 48 => ("PatternDeskModel", "eqLeft", "[I", true)
  | 49 => ("PatternDeskModel", "eqRight", "[I", true)
  | 50 => ("PatternDeskModel", "nodes", "I", false)
  | 51 => ("PatternDeskModel", "kind", "[I", true)
  | 52 => ("PatternDeskModel", "ref", "[I", true)
  | 53 => ("PatternDeskModel", "first", "[I", true)
  | 54 => ("PatternDeskModel", "next", "[I", true)
  | 55 => ("PatternDeskModel", "from", "[I", true)
  | 56 => ("PatternDeskModel", "vars", "I", false)
  | 57 => ("PatternDeskModel", "var", "[I", true)
  | 58 => ("PatternDeskModel", "ids", "I", false)
  | 59 => ("PatternDeskModel", "typeOf", "[I", true)
  | 60 => ("PatternDeskModel", "depthOf", "[I", true)
  | 61 => ("PatternDeskModel", "metas", "I", false)
  | 62 => ("PatternDeskModel", "arity", "[I", true)
  | 63 => ("PatternDeskModel", "metaTypes", "[I", true)
  | 64 => ("PatternDeskModel", "typeRows", "I", false)
  | 65 => ("PatternDeskModel", "typeRow", "[I", true)
  | 66 => ("PatternDeskModel", "solved", "[Z", true)
  | 67 => ("PatternDeskModel", "solvedVars", "[I", true)
  | 68 => ("PatternDeskModel", "solvedTerm", "[I", true)
  | 69 => ("PatternDeskModel", "solvedBy", "[I", true)
  | 70 => ("PatternDeskModel", "assigned", "I", false)
  | 71 => ("PatternDeskModel", "names", "I", false)
  | 72 => ("PatternDeskModel", "nameFrom", "[I", true)
  | 73 => ("PatternDeskModel", "nameTo", "[I", true)
  | 74 => ("PatternDeskModel", "nameRest", "[I", true)
  | 75 => ("PatternDeskModel", "nodesLoaded", "I", false)
  | 76 => ("PatternDeskModel", "varsLoaded", "I", false)
  | 77 => ("PatternDeskModel", "idsLoaded", "I", false)
  | 78 => ("PatternDeskModel", "hasSolution", "Z", false)
  | 79 => ("PatternDeskModel", "fresh", "I", false)
  | 80 => ("PatternDeskModel", "freshOf", "[I", true)
  | 81 => ("PatternDeskModel", "seen", "[Z", true)
  | 82 => ("PatternDeskModel", "orderOf", "[I", true)
  | 83 => ("PatternDeskModel", "orders", "I", false)
  | 84 => ("PatternDeskModel", "order", "[I", true)
  | 85 => ("PatternDeskModel", "paper", "[I", true)
  | 86 => ("PatternDeskModel", "written", "I", false)
  | 87 => ("PatternDeskModel", "metaType", "[I", true)
  | 88 => ("PatternDeskModel", "closed", "[Z", true)
  | _ => ("PatternDeskModel", "numbering", "Z", false)
def tyX12 : Nat → FieldType := fun k => match k with
  | 0 => .array .int
  | 1 => .int
  | 2 => .array .int
  | 3 => .int
  | 4 => .array .int
  | 5 => .array .int
  | 6 => .array .int
  | 7 => .int
  | 8 => .boolean
  | 9 => .int
  | 10 => .array .int
  | 11 => .array .int
  | 12 => .int
  | 13 => .array .int
  | 14 => .array .int
  | 15 => .array .int
  | 16 => .array .int
  | 17 => .array .int
  | 18 => .array .int
  | 19 => .array .int
  | 20 => .array .int
  | 21 => .array .int
  | 22 => .array .int
  | 23 => .array .int
  | 24 => .int
  | 25 => .array .int
  | 26 => .array .int
  | 27 => .array .int
  | 28 => .array .int
  | 29 => .array .int
  | 30 => .array .int
  | 31 => .array .int
  | 32 => .array .int
  | 33 => .int
  | 34 => .int
  | 35 => .array .int
  | 36 => .array .int
  | 37 => .boolean
  | 38 => .int
  | 39 => .int
  | 40 => .int
  | 41 => .int
  | 42 => .int
  | 43 => .array .int
  | 44 => .array .int
  | 45 => .int
  | 46 => .array .int
  | 47 => .int
  | 48 => .array .int
  | 49 => .array .int
  | 50 => .int
  | 51 => .array .int
  | 52 => .array .int
  | 53 => .array .int
  | 54 => .array .int
  | 55 => .array .int
  | 56 => .int
  | 57 => .array .int
  | 58 => .int
  | 59 => .array .int
  | 60 => .array .int
  | 61 => .int
  | 62 => .array .int
  | 63 => .array .int
  | 64 => .int
  | 65 => .array .int
  | 66 => .array .boolean
  | 67 => .array .int
  | 68 => .array .int
  | 69 => .array .int
  | 70 => .int
  | 71 => .int
  | 72 => .array .int
  | 73 => .array .int
  | 74 => .array .int
  | 75 => .int
  | 76 => .int
  | 77 => .int
  | 78 => .boolean
  | 79 => .int
  | 80 => .array .int
  | 81 => .array .boolean
  | 82 => .array .int
  | 83 => .int
  | 84 => .array .int
  | 85 => .array .int
  | 86 => .int
  | 87 => .array .int
  | 88 => .array .boolean
  | _ => .boolean
abbrev wsX120 : List Cond := u_ws RX12 TX12 90
theorem nmX12 : ∀ a, a < 90 → ∀ b, b < 90 → a ≠ b → (TX12 a).2.1 ≠ (TX12 b).2.1 := by decide +kernel
theorem tyX12_ok : ∀ k, k < 90 → parseFieldDescriptor (TX12 k).2.2.1 = some (tyX12 k) := by decide +kernel
abbrev cX12_init : ByteArray := prog_14_method_1_code
def yX12_init : MethodName := ⟨RX12, "<init>", "()V"⟩
abbrev cX12_feed : ByteArray := prog_14_method_2_code
def yX12_feed : MethodName := ⟨RX12, "feed", "(IIIII)I"⟩
abbrev cX12_byteAt : ByteArray := prog_14_method_3_code
def yX12_byteAt : MethodName := ⟨RX12, "byteAt", "(I)I"⟩
abbrev cX12_isLetter : ByteArray := prog_14_method_4_code
def yX12_isLetter : MethodName := ⟨RX12, "isLetter", "(I)Z"⟩
abbrev cX12_isDigit : ByteArray := prog_14_method_5_code
def yX12_isDigit : MethodName := ⟨RX12, "isDigit", "(I)Z"⟩
abbrev cX12_is : ByteArray := prog_14_method_6_code
def yX12_is : MethodName := ⟨RX12, "is", "(IILjava/lang/String;)Z"⟩
abbrev cX12_tokenAt : ByteArray := prog_14_method_7_code
def yX12_tokenAt : MethodName := ⟨RX12, "tokenAt", "(II)I"⟩
abbrev cX12_cut : ByteArray := prog_14_method_8_code
def yX12_cut : MethodName := ⟨RX12, "cut", "()V"⟩
abbrev cX12_sameName : ByteArray := prog_14_method_9_code
def yX12_sameName : MethodName := ⟨RX12, "sameName", "(II)Z"⟩
abbrev cX12_take : ByteArray := prog_14_method_10_code
def yX12_take : MethodName := ⟨RX12, "take", "(I)I"⟩
abbrev cX12_arrow : ByteArray := prog_14_method_11_code
def yX12_arrow : MethodName := ⟨RX12, "arrow", "(II)I"⟩
abbrev cX12_type : ByteArray := prog_14_method_12_code
def yX12_type : MethodName := ⟨RX12, "type", "(I)I"⟩
abbrev cX12_node : ByteArray := prog_14_method_13_code
def yX12_node : MethodName := ⟨RX12, "node", "(II)I"⟩
abbrev cX12_add : ByteArray := prog_14_method_14_code
def yX12_add : MethodName := ⟨RX12, "add", "(II)V"⟩
abbrev cX12_term : ByteArray := prog_14_method_15_code
def yX12_term : MethodName := ⟨RX12, "term", "(I)I"⟩
abbrev cX12_read : ByteArray := prog_14_method_16_code
def yX12_read : MethodName := ⟨RX12, "read", "()V"⟩
abbrev cX12_wrong : ByteArray := prog_14_method_17_code
def yX12_wrong : MethodName := ⟨RX12, "wrong", "(II)V"⟩
abbrev cX12_same : ByteArray := prog_14_method_18_code
def yX12_same : MethodName := ⟨RX12, "same", "(II)Z"⟩
abbrev cX12_newVar : ByteArray := prog_14_method_19_code
def yX12_newVar : MethodName := ⟨RX12, "newVar", "(I)I"⟩
abbrev cX12_constant : ByteArray := prog_14_method_20_code
def yX12_constant : MethodName := ⟨RX12, "constant", "(I)I"⟩
abbrev cX12_unknown : ByteArray := prog_14_method_21_code
def yX12_unknown : MethodName := ⟨RX12, "unknown", "(I)I"⟩
abbrev cX12_mean : ByteArray := prog_14_method_22_code
def yX12_mean : MethodName := ⟨RX12, "mean", "(I)I"⟩
abbrev cX12_check : ByteArray := prog_14_method_23_code
def yX12_check : MethodName := ⟨RX12, "check", "(I)I"⟩
abbrev cX12_distinct : ByteArray := prog_14_method_24_code
def yX12_distinct : MethodName := ⟨RX12, "distinct", "(I)V"⟩
abbrev cX12_declare : ByteArray := prog_14_method_25_code
def yX12_declare : MethodName := ⟨RX12, "declare", "(I)V"⟩
abbrev cX12_equation : ByteArray := prog_14_method_26_code
def yX12_equation : MethodName := ⟨RX12, "equation", "(I)V"⟩
abbrev cX12_load : ByteArray := prog_14_method_27_code
def yX12_load : MethodName := ⟨RX12, "load", "(I)I"⟩
abbrev cX12_told : ByteArray := prog_14_method_28_code
def yX12_told : MethodName := ⟨RX12, "told", "(I)I"⟩
abbrev cX12_count : ByteArray := prog_14_method_29_code
def yX12_count : MethodName := ⟨RX12, "count", "(I)I"⟩
abbrev cX12_make : ByteArray := prog_14_method_30_code
def yX12_make : MethodName := ⟨RX12, "make", "(II)I"⟩
abbrev cX12_append : ByteArray := prog_14_method_31_code
def yX12_append : MethodName := ⟨RX12, "append", "(II)V"⟩
abbrev cX12_close : ByteArray := prog_14_method_32_code
def yX12_close : MethodName := ⟨RX12, "close", "(II)I"⟩
abbrev cX12_longVar : ByteArray := prog_14_method_33_code
def yX12_longVar : MethodName := ⟨RX12, "longVar", "(I)I"⟩
abbrev cX12_build : ByteArray := prog_14_method_34_code
def yX12_build : MethodName := ⟨RX12, "build", "(I)I"⟩
abbrev cX12_variable : ByteArray := prog_14_method_35_code
def yX12_variable : MethodName := ⟨RX12, "variable", "(I)I"⟩
abbrev cX12_name : ByteArray := prog_14_method_36_code
def yX12_name : MethodName := ⟨RX12, "name", "(III)I"⟩
abbrev cX12_behind : ByteArray := prog_14_method_37_code
def yX12_behind : MethodName := ⟨RX12, "behind", "(II)I"⟩
abbrev cX12_look : ByteArray := prog_14_method_38_code
def yX12_look : MethodName := ⟨RX12, "look", "(II)I"⟩
abbrev cX12_varOf : ByteArray := prog_14_method_39_code
def yX12_varOf : MethodName := ⟨RX12, "varOf", "(III)I"⟩
abbrev cX12_enter : ByteArray := prog_14_method_40_code
def yX12_enter : MethodName := ⟨RX12, "enter", "(II)I"⟩
abbrev cX12_newMeta : ByteArray := prog_14_method_41_code
def yX12_newMeta : MethodName := ⟨RX12, "newMeta", "()I"⟩
abbrev cX12_addType : ByteArray := prog_14_method_42_code
def yX12_addType : MethodName := ⟨RX12, "addType", "(II)V"⟩
abbrev cX12_assign : ByteArray := prog_14_method_43_code
def yX12_assign : MethodName := ⟨RX12, "assign", "(IIII)V"⟩
abbrev cX12_actual : ByteArray := prog_14_method_44_code
def yX12_actual : MethodName := ⟨RX12, "actual", "(II)I"⟩
abbrev cX12_keep : ByteArray := prog_14_method_45_code
def yX12_keep : MethodName := ⟨RX12, "keep", "(III)V"⟩
abbrev cX12_unify : ByteArray := prog_14_method_46_code
def yX12_unify : MethodName := ⟨RX12, "unify", "(IIII)Z"⟩
abbrev cX12_sameVars : ByteArray := prog_14_method_47_code
def yX12_sameVars : MethodName := ⟨RX12, "sameVars", "(IIII)Z"⟩
abbrev cX12_meet : ByteArray := prog_14_method_48_code
def yX12_meet : MethodName := ⟨RX12, "meet", "(IIII)Z"⟩
abbrev cX12_join : ByteArray := prog_14_method_49_code
def yX12_join : MethodName := ⟨RX12, "join", "(IIII)Z"⟩
abbrev cX12_bind : ByteArray := prog_14_method_50_code
def yX12_bind : MethodName := ⟨RX12, "bind", "(IIII)Z"⟩
abbrev cX12_isIn : ByteArray := prog_14_method_51_code
def yX12_isIn : MethodName := ⟨RX12, "isIn", "(III)Z"⟩
abbrev cX12_fits : ByteArray := prog_14_method_52_code
def yX12_fits : MethodName := ⟨RX12, "fits", "(IIIII)Z"⟩
abbrev cX12_solve : ByteArray := prog_14_method_53_code
def yX12_solve : MethodName := ⟨RX12, "solve", "()I"⟩
abbrev cX12_number : ByteArray := prog_14_method_54_code
def yX12_number : MethodName := ⟨RX12, "number", "()V"⟩
abbrev cX12_put : ByteArray := prog_14_method_55_code
def yX12_put : MethodName := ⟨RX12, "put", "(I)V"⟩
abbrev cX12_putNumber : ByteArray := prog_14_method_56_code
def yX12_putNumber : MethodName := ⟨RX12, "putNumber", "(II)V"⟩
abbrev cX12_putName : ByteArray := prog_14_method_57_code
def yX12_putName : MethodName := ⟨RX12, "putName", "(I)V"⟩
abbrev cX12_lambda : ByteArray := prog_14_method_58_code
def yX12_lambda : MethodName := ⟨RX12, "lambda", "(II)V"⟩
abbrev cX12_writeUnknown : ByteArray := prog_14_method_59_code
def yX12_writeUnknown : MethodName := ⟨RX12, "writeUnknown", "(I)V"⟩
abbrev cX12_isFull : ByteArray := prog_14_method_60_code
def yX12_isFull : MethodName := ⟨RX12, "isFull", "()Z"⟩
abbrev cX12_write : ByteArray := prog_14_method_61_code
def yX12_write : MethodName := ⟨RX12, "write", "(III)V"⟩
abbrev cX12_hasParts : ByteArray := prog_14_method_62_code
def yX12_hasParts : MethodName := ⟨RX12, "hasParts", "(II)Z"⟩
abbrev cX12_writeFresh : ByteArray := prog_14_method_63_code
def yX12_writeFresh : MethodName := ⟨RX12, "writeFresh", "(III)V"⟩
abbrev cX12_writeVar : ByteArray := prog_14_method_64_code
def yX12_writeVar : MethodName := ⟨RX12, "writeVar", "(II)V"⟩
abbrev cX12_papers : ByteArray := prog_14_method_65_code
def yX12_papers : MethodName := ⟨RX12, "papers", "(IZI)I"⟩
abbrev cX12_fresh : ByteArray := prog_14_method_66_code
def yX12_fresh : MethodName := ⟨RX12, "fresh", "()I"⟩
abbrev cX12_size : ByteArray := prog_14_method_67_code
def yX12_size : MethodName := ⟨RX12, "size", "(I)I"⟩
abbrev cX12_letter : ByteArray := prog_14_method_68_code
def yX12_letter : MethodName := ⟨RX12, "letter", "(II)I"⟩
abbrev cX12_side : ByteArray := prog_14_method_69_code
def yX12_side : MethodName := ⟨RX12, "side", "(II)I"⟩
abbrev cX12_sideLetter : ByteArray := prog_14_method_70_code
def yX12_sideLetter : MethodName := ⟨RX12, "sideLetter", "(III)I"⟩
def RJ11 : String := "java/lang/Character"
def TJ11 : u_T := fun k => match k with
  | _ => ("", "", "", false)
def tyJ11 : Nat → FieldType := fun k => match k with
  | _ => .int
abbrev wsJ110 : List Cond := u_ws RJ11 TJ11 0
theorem nmJ11 : ∀ a, a < 0 → ∀ b, b < 0 → a ≠ b → (TJ11 a).2.1 ≠ (TJ11 b).2.1 := by decide +kernel
theorem tyJ11_ok : ∀ k, k < 0 → parseFieldDescriptor (TJ11 k).2.2.1 = some (tyJ11 k) := by decide +kernel
abbrev cJ11_isValidCodePoint_9a6ad : ByteArray := prog_15_method_11_code
def yJ11_isValidCodePoint_9a6ad : MethodName := ⟨RJ11, "isValidCodePoint", "(I)Z"⟩
abbrev cJ11_highSurrogate_5068e : ByteArray := prog_15_method_28_code
def yJ11_highSurrogate_5068e : MethodName := ⟨RJ11, "highSurrogate", "(I)C"⟩
abbrev cJ11_lowSurrogate_5068e : ByteArray := prog_15_method_29_code
def yJ11_lowSurrogate_5068e : MethodName := ⟨RJ11, "lowSurrogate", "(I)C"⟩
def RJ9 : String := "java/lang/Math"
def TJ9 : u_T := fun k => match k with
  | _ => ("", "", "", false)
def tyJ9 : Nat → FieldType := fun k => match k with
  | _ => .int
abbrev wsJ90 : List Cond := u_ws RJ9 TJ9 0
theorem nmJ9 : ∀ a, a < 0 → ∀ b, b < 0 → a ≠ b → (TJ9 a).2.1 ≠ (TJ9 b).2.1 := by decide +kernel
theorem tyJ9_ok : ∀ k, k < 0 → parseFieldDescriptor (TJ9 k).2.2.1 = some (tyJ9 k) := by decide +kernel
abbrev cJ9_max_7cf53 : ByteArray := prog_16_method_65_code
def yJ9_max_7cf53 : MethodName := ⟨RJ9, "max", "(II)I"⟩
abbrev cJ9_min_7cf53 : ByteArray := prog_16_method_69_code
def yJ9_min_7cf53 : MethodName := ⟨RJ9, "min", "(II)I"⟩
def RJ0 : String := "java/lang/String"
def TJ0 : u_T := fun k => match k with
  | _ => ("", "", "", false)
def tyJ0 : Nat → FieldType := fun k => match k with
  | _ => .int
abbrev wsJ00 : List Cond := u_ws RJ0 TJ0 0
theorem nmJ0 : ∀ a, a < 0 → ∀ b, b < 0 → a ≠ b → (TJ0 a).2.1 ≠ (TJ0 b).2.1 := by decide +kernel
theorem tyJ0_ok : ∀ k, k < 0 → parseFieldDescriptor (TJ0 k).2.2.1 = some (tyJ0 k) := by decide +kernel
abbrev cJ0_length_8abf5 : ByteArray := prog_17_method_54_code
def yJ0_length_8abf5 : MethodName := ⟨RJ0, "length", "()I"⟩
abbrev cJ0_charAt_5068e : ByteArray := prog_17_method_56_code
def yJ0_charAt_5068e : MethodName := ⟨RJ0, "charAt", "(I)C"⟩
abbrev cJ0_indexOf_0f7a4 : ByteArray := prog_17_method_79_code
def yJ0_indexOf_0f7a4 : MethodName := ⟨RJ0, "indexOf", "(I)I"⟩
abbrev cJ0_indexOf_7cf53 : ByteArray := prog_17_method_80_code
def yJ0_indexOf_7cf53 : MethodName := ⟨RJ0, "indexOf", "(II)I"⟩
abbrev cJ0_coder_7d493 : ByteArray := prog_17_method_152_code
def yJ0_coder_7d493 : MethodName := ⟨RJ0, "coder", "()B"⟩
abbrev cJ0_isLatin1_aae02 : ByteArray := prog_17_method_154_code
def yJ0_isLatin1_aae02 : MethodName := ⟨RJ0, "isLatin1", "()Z"⟩
abbrev cJ0_checkIndex_df160 : ByteArray := prog_17_method_155_code
def yJ0_checkIndex_df160 : MethodName := ⟨RJ0, "checkIndex", "(II)V"⟩
abbrev cJ0_checkBoundsBeginEnd_23922 : ByteArray := prog_17_method_158_code
def yJ0_checkBoundsBeginEnd_23922 : MethodName := ⟨RJ0, "checkBoundsBeginEnd", "(III)V"⟩
def RJ1 : String := "java/lang/StringLatin1"
def TJ1 : u_T := fun k => match k with
  | _ => ("", "", "", false)
def tyJ1 : Nat → FieldType := fun k => match k with
  | _ => .int
abbrev wsJ10 : List Cond := u_ws RJ1 TJ1 0
theorem nmJ1 : ∀ a, a < 0 → ∀ b, b < 0 → a ≠ b → (TJ1 a).2.1 ≠ (TJ1 b).2.1 := by decide +kernel
theorem tyJ1_ok : ∀ k, k < 0 → parseFieldDescriptor (TJ1 k).2.2.1 = some (tyJ1 k) := by decide +kernel
abbrev cJ1_charAt_3b067 : ByteArray := prog_18_method_2_code
def yJ1_charAt_3b067 : MethodName := ⟨RJ1, "charAt", "([BI)C"⟩
abbrev cJ1_canEncode_9a6ad : ByteArray := prog_18_method_4_code
def yJ1_canEncode_9a6ad : MethodName := ⟨RJ1, "canEncode", "(I)Z"⟩
abbrev cJ1_indexOf_4cfef : ByteArray := prog_18_method_22_code
def yJ1_indexOf_4cfef : MethodName := ⟨RJ1, "indexOf", "([BIII)I"⟩
abbrev cJ1_indexOfChar_4cfef : ByteArray := prog_18_method_23_code
def yJ1_indexOfChar_4cfef : MethodName := ⟨RJ1, "indexOfChar", "([BIII)I"⟩
def RJ2 : String := "java/lang/StringUTF16"
def TJ2 : u_T := fun k => match k with
  | _ => ("", "", "", false)
def tyJ2 : Nat → FieldType := fun k => match k with
  | _ => .int
abbrev wsJ20 : List Cond := u_ws RJ2 TJ2 0
theorem nmJ2 : ∀ a, a < 0 → ∀ b, b < 0 → a ≠ b → (TJ2 a).2.1 ≠ (TJ2 b).2.1 := by decide +kernel
theorem tyJ2_ok : ∀ k, k < 0 → parseFieldDescriptor (TJ2 k).2.2.1 = some (tyJ2 k) := by decide +kernel
abbrev cJ2_getChar_3b067 : ByteArray := prog_19_method_5_code
def yJ2_getChar_3b067 : MethodName := ⟨RJ2, "getChar", "([BI)C"⟩
abbrev cJ2_length_9d52b : ByteArray := prog_19_method_6_code
def yJ2_length_9d52b : MethodName := ⟨RJ2, "length", "([B)I"⟩
abbrev cJ2_indexOf_4cfef : ByteArray := prog_19_method_40_code
def yJ2_indexOf_4cfef : MethodName := ⟨RJ2, "indexOf", "([BIII)I"⟩
abbrev cJ2_indexOfChar_4cfef : ByteArray := prog_19_method_47_code
def yJ2_indexOfChar_4cfef : MethodName := ⟨RJ2, "indexOfChar", "([BIII)I"⟩
abbrev cJ2_indexOfCharUnsafe_4cfef : ByteArray := prog_19_method_48_code
def yJ2_indexOfCharUnsafe_4cfef : MethodName := ⟨RJ2, "indexOfCharUnsafe", "([BIII)I"⟩
abbrev cJ2_indexOfSupplementary_4cfef : ByteArray := prog_19_method_49_code
def yJ2_indexOfSupplementary_4cfef : MethodName := ⟨RJ2, "indexOfSupplementary", "([BIII)I"⟩
abbrev cJ2_charAt_3b067 : ByteArray := prog_19_method_83_code
def yJ2_charAt_3b067 : MethodName := ⟨RJ2, "charAt", "([BI)C"⟩
abbrev cJ2_checkIndex_2214a : ByteArray := prog_19_method_91_code
def yJ2_checkIndex_2214a : MethodName := ⟨RJ2, "checkIndex", "(I[B)V"⟩
abbrev cJ2_checkBoundsBeginEnd_d044e : ByteArray := prog_19_method_93_code
def yJ2_checkBoundsBeginEnd_d044e : MethodName := ⟨RJ2, "checkBoundsBeginEnd", "(II[B)V"⟩
def RJ10 : String := "java/lang/System"
def TJ10 : u_T := fun k => match k with
  | _ => ("", "", "", false)
def tyJ10 : Nat → FieldType := fun k => match k with
  | _ => .int
abbrev wsJ100 : List Cond := u_ws RJ10 TJ10 0
theorem nmJ10 : ∀ a, a < 0 → ∀ b, b < 0 → a ≠ b → (TJ10 a).2.1 ≠ (TJ10 b).2.1 := by decide +kernel
theorem tyJ10_ok : ∀ k, k < 0 → parseFieldDescriptor (TJ10 k).2.2.1 = some (tyJ10 k) := by decide +kernel
def RJ7 : String := "java/util/Arrays"
def TJ7 : u_T := fun k => match k with
  | _ => ("", "", "", false)
def tyJ7 : Nat → FieldType := fun k => match k with
  | _ => .int
abbrev wsJ70 : List Cond := u_ws RJ7 TJ7 0
theorem nmJ7 : ∀ a, a < 0 → ∀ b, b < 0 → a ≠ b → (TJ7 a).2.1 ≠ (TJ7 b).2.1 := by decide +kernel
theorem tyJ7_ok : ∀ k, k < 0 → parseFieldDescriptor (TJ7 k).2.2.1 = some (tyJ7 k) := by decide +kernel
abbrev cJ7_fill_53178 : ByteArray := prog_21_method_103_code
def yJ7_fill_53178 : MethodName := ⟨RJ7, "fill", "([II)V"⟩
def RJ3 : String := "jdk/internal/util/Preconditions"
def TJ3 : u_T := fun k => match k with
  | _ => ("", "", "", false)
def tyJ3 : Nat → FieldType := fun k => match k with
  | _ => .int
abbrev wsJ30 : List Cond := u_ws RJ3 TJ3 0
theorem nmJ3 : ∀ a, a < 0 → ∀ b, b < 0 → a ≠ b → (TJ3 a).2.1 ≠ (TJ3 b).2.1 := by decide +kernel
theorem tyJ3_ok : ∀ k, k < 0 → parseFieldDescriptor (TJ3 k).2.2.1 = some (tyJ3 k) := by decide +kernel
abbrev cJ3_checkIndex_8e157 : ByteArray := prog_22_method_11_code
def yJ3_checkIndex_8e157 : MethodName := ⟨RJ3, "checkIndex", "(IILjava/util/function/BiFunction;)I"⟩
abbrev cJ3_checkFromToIndex_8c36e : ByteArray := prog_22_method_12_code
def yJ3_checkFromToIndex_8c36e : MethodName := ⟨RJ3, "checkFromToIndex", "(IIILjava/util/function/BiFunction;)I"⟩
def RL : String := "PatternDeskLaw"
abbrev cL_law : ByteArray := code
def yL_law : MethodName := ⟨RL, "law", "([I)Z"⟩
abbrev vwCl : List vw_C := [(RX0, TX0, 9), (RX1, TX1, 15), (RX2, TX2, 2), (RX3, TX3, 4), (RX4, TX4, 3), (RX5, TX5, 7), (RX6, TX6, 13), (RX7, TX7, 9), (RX8, TX8, 6), (RX9, TX9, 3), (RX10, TX10, 12), (RX11, TX11, 11), (RX12, TX12, 90)]
end
section
/-! ===== THE PURE MACHINE: worlds whose cells are named by their places; a judgement mx_W over them; a rule an instruction ===== -/
/-- the tables' words that stay over a call; pure values name cells by their places: here they get addresses -/
def mx_tb : List Cond := lw_tbl.filter goodWord
def mx_v (r : Nat → Nat) (v : Value) : Value := match v with
  | .ref i => .ref (r i)
  | v => v
theorem mx_v_cat (r : Nat → Nat) (v : Value) : (mx_v r v).category = v.category := by cases v <;> rfl
def mx_e (r : Nat → Nat) (cA : Nat → ClassId) (e : va_E) : va_E := match e with
  | .inl a => .inl (cA a.1, a.2)
  | .inr o => .inr (o.1, o.2.map (mx_v r))
def mx_w (r : Nat → Nat) (cA : Nat → ClassId) (hp : List va_E) : va_W := hp.mapIdx (fun i e => (r i, mx_e r cA e))
theorem mx_w_at {r : Nat → Nat} {cA : Nat → ClassId} {hp : List va_E} {i : Nat} {e : va_E} (h : hp[i]? = some e) : (mx_w r cA hp)[i]? = some (r i, mx_e r cA e) := by
  simp [mx_w, h]
theorem mx_w_of {r : Nat → Nat} {cA : Nat → ClassId} {hp : List va_E} {i : Nat} {q : Nat × va_E} (h : (mx_w r cA hp)[i]? = some q) : i < hp.length ∧ q.1 = r i := by
  simp [mx_w] at h
  obtain ⟨e, he, hq⟩ := h
  exact ⟨(List.getElem?_eq_some_iff.mp he).1, by rw [← hq]⟩
theorem mx_w_set {r : Nat → Nat} {cA : Nat → ClassId} {hp : List va_E} {i : Nat} {e : va_E} : (mx_w r cA hp).set i (r i, mx_e r cA e) = mx_w r cA (hp.set i e) := by
  apply List.ext_getElem?
  intro j
  by_cases hj : i = j
  · subst hj
    by_cases hl : i < hp.length
    · simp [mx_w, hl]
    · have h1 : ¬ i < (mx_w r cA hp).length := by simp [mx_w]; omega
      rw [List.getElem?_eq_none (by simp [mx_w]; omega), List.getElem?_eq_none (by simp [mx_w]; omega)]
  · simp [mx_w, List.getElem?_set_ne hj]
theorem mx_w_push {r : Nat → Nat} {cA : Nat → ClassId} {hp : List va_E} {e : va_E} : mx_w r cA hp ++ [(r hp.length, mx_e r cA e)] = mx_w r cA (hp ++ [e]) := by
  simp [mx_w, List.mapIdx_append]
/-- the surroundings: addresses by place, array classes by tag (0 int, 1 boolean, 2 byte, 3 char), classes, slots, the first address; the script: its address, length, ints (its place is 1000000) -/
abbrev mx_Ev : Type := (Nat → Nat) × (Nat → ClassId) × (Nat → ClassId) × (Nat → Nat → Nat) × Nat × Nat × Nat × (Nat → Int32)
/-- a method: name, bytes, locals, what it returns -/
abbrev mx_Me : Type := MethodName × ByteArray × Nat × Option FieldType
def mx_T (cA : Nat → ClassId) : List (ClassId × FieldType) := [(cA 0, .int), (cA 1, .boolean), (cA 2, .byte), (cA 3, .char)]
def mx_ok (E : mx_Ev) : Prop := (∀ i, i < 1000000 → E.1 i = E.2.2.2.2.1 + i) ∧ E.2.2.2.2.2.1 < E.2.2.2.2.1 ∧ E.1 1000000 = E.2.2.2.2.2.1 ∧ E.2.2.2.2.2.2.1 ≤ 3072
def mx_A (E : mx_Ev) : Nat → Prop := fun q => E.2.2.2.2.1 ≤ q
def mx_K (E : mx_Ev) (s : State) : Prop := va_K (E.2.2.1, E.2.2.2.1) vwCl (mx_T E.2.1) s
def mx_P (E : mx_Ev) (hp : List va_E) (H : Heap) : Prop := va_P (E.2.2.1, E.2.2.2.1) vwCl (mx_w E.1 E.2.1 hp) H ∧ H.size = E.2.2.2.2.1 + hp.length ∧ hp.length ≤ 600000
def mx_Q (E : mx_Ev) (K : Option Value → List va_E → Prop) : Array Value → State → Outcome → State → Prop := fun _ st o t =>
  (∃ (v : Option Value) (hp : List va_E), o = .returned (v.map (mx_v E.1)) ∧ K v hp ∧ mx_P E hp t.heap) ∧ va_F (mx_A E) st t
def mx_C (E : mx_Ev) (M : mx_Me) (p : Program) (s : State) (m : MethodId) (args : Array Value) (meth : Method) (c : Code) : Prop :=
  mx_ok E ∧ p.tables.exec = Jvm.exec ∧ c.code = M.2.1 ∧ c.maxLocals = M.2.2.1 ∧ meth.sig.returnType = M.2.2.2 ∧ meth.locks = false ∧ meth.name = M.1.name ∧ s.vm.findClass M.1.cls = some m.cls ∧ (∀ w ∈ mx_tb, w.before args s = true) ∧ mx_K E s ∧ E.2.2.2.2.1 ≤ s.heap.size ∧ va_X E.2.2.2.2.2.1 E.2.2.2.2.2.2.1 E.2.2.2.2.2.2.2 s s.heap
def mx_W (l : Launch) (E : mx_Ev) (M : mx_Me) (R : Room) (mc ms : Nat) (K : Option Value → List va_E → Prop) (cells slots pc : Nat) (ls : List (Nat × Value)) (st : List Value) (hp : List va_E) : Prop :=
  ∀ (p : Program) (e : Env) (s : State) (m : MethodId) (args : Array Value) (below : List Frame) (meth : Method) (c : Code) (H : Heap) (locs : List Loc) (lv : Array Slot),
    mx_C E M p s m args meth c → mx_P E hp H → va_S (mx_A E) s.heap H locs → lv_has lv M.2.2.1 (ls.map (fun q => (q.1, mx_v E.1 q.2))) →
    W p l e R s m args below meth c H locs cells slots (MQ below (mx_Q E K) args s mc ms (mx_A E)) (F0 m pc lv (st.map (mx_v E.1)))
theorem mx_P.D {E : mx_Ev} {hp : List va_E} {H : Heap} (hE : mx_ok E) (h : mx_P E hp H) : va_D (mx_A E) (mx_w E.1 E.2.1 hp) := by
  refine ⟨fun i j p q h1 h2 e => ?_, fun k q hk => ?_⟩
  · obtain ⟨a1, a2⟩ := mx_w_of h1
    obtain ⟨b1, b2⟩ := mx_w_of h2
    rw [a2, b2, hE.1 i (by have := h.2.2; omega), hE.1 j (by have := h.2.2; omega)] at e
    omega
  · obtain ⟨a1, a2⟩ := mx_w_of hk
    rw [a2, hE.1 k (by have := h.2.2; omega)]
    exact Nat.le_add_right _ _
/-- the value of a local -/
def mx_at : List (Nat × Value) → Nat → Option Value
  | [], _ => none
  | q :: l, i => cond (Nat.beq q.1 i) (some q.2) (mx_at l i)
theorem mx_at_mem : ∀ {l : List (Nat × Value)} {i : Nat} {v : Value}, mx_at l i = some v → (i, v) ∈ l
  | [], _, _, h => by cases h
  | q :: l, i, v, h => by
    unfold mx_at at h
    by_cases hq : Nat.beq q.1 i = true
    · rw [hq] at h
      have e1 : q.1 = i := Nat.eq_of_beq_eq_true hq
      have e2 : q.2 = v := Option.some.inj h
      rw [← e1, ← e2]
      exact List.mem_cons_self
    · rw [Bool.not_eq_true] at hq
      rw [hq] at h
      exact List.mem_cons_of_mem _ (mx_at_mem h)
def mx_keep (i : Nat) (q : Nat × Value) : Bool := !(q.1 == i) && !(q.1 + 1 == i && q.2.category == 2)
def mx_put (ls : List (Nat × Value)) (i : Nat) (v : Value) : List (Nat × Value) := (i, v) :: ls.filter (mx_keep i)
theorem mx_get {E : mx_Ev} {lv : Array Slot} {n i : Nat} {ls : List (Nat × Value)} {v : Value} (L : lv_has lv n (ls.map (fun q => (q.1, mx_v E.1 q.2)))) (h : mx_at ls i = some v) : lv[i]? = some (.val (mx_v E.1 v)) :=
  L.2.2 (i, mx_v E.1 v) (List.mem_map.mpr ⟨(i, v), mx_at_mem h, rfl⟩)
theorem mx_put_eq (r : Nat → Nat) (ls : List (Nat × Value)) (i : Nat) (v : Value) : (i, mx_v r v) :: (ls.map (fun q => (q.1, mx_v r q.2))).filter (fun q => !(q.1 == i) && !(q.1 + 1 == i && q.2.category == 2)) = (mx_put ls i v).map (fun q => (q.1, mx_v r q.2)) := by
  unfold mx_put
  rw [List.map_cons, List.filter_map]
  congr 2
  apply List.filter_congr
  intro q _
  simp [mx_keep, mx_v_cat]
section MX
variable {l : Launch} {E : mx_Ev} {M : mx_Me} {R : Room} {mc ms : Nat} {K : Option Value → List va_E → Prop} {cells slots pc : Nat} {ls : List (Nat × Value)} {st : List Value} {hp : List va_E}
theorem mx_iconst {n : Int} {v : Int32} (hd : decode M.2.1 pc = .ok (.iconst n, 1)) (hv : Int32.ofInt n = v) (k : mx_W l E M R mc ms K cells slots (pc + 1) ls (.int v :: st) hp) : mx_W l E M R mc ms K cells slots pc ls st hp :=
  fun p e s m args below meth c H locs lv C P S L => lv_iconst C.2.1 C.2.2.1 hd hv (k p e s m args below meth c H locs lv C P S L)
theorem mx_bipush {n : Int} {v : Int32} (hd : decode M.2.1 pc = .ok (.bipush n, 2)) (hv : (Int8.ofInt n).toInt32 = v) (k : mx_W l E M R mc ms K cells slots (pc + 2) ls (.int v :: st) hp) : mx_W l E M R mc ms K cells slots pc ls st hp :=
  fun p e s m args below meth c H locs lv C P S L => lv_bipush C.2.1 C.2.2.1 hd hv (k p e s m args below meth c H locs lv C P S L)
theorem mx_sipush {n : Int} {v : Int32} (hd : decode M.2.1 pc = .ok (.sipush n, 3)) (hv : (Int16.ofInt n).toInt32 = v) (k : mx_W l E M R mc ms K cells slots (pc + 3) ls (.int v :: st) hp) : mx_W l E M R mc ms K cells slots pc ls st hp :=
  fun p e s m args below meth c H locs lv C P S L => lv_sipush C.2.1 C.2.2.1 hd hv (k p e s m args below meth c H locs lv C P S L)
theorem mx_null (hd : decode M.2.1 pc = .ok (.aconst_null, 1)) (k : mx_W l E M R mc ms K cells slots (pc + 1) ls (.null :: st) hp) : mx_W l E M R mc ms K cells slots pc ls st hp :=
  fun p e s m args below meth c H locs lv C P S L => lv_null C.2.1 C.2.2.1 hd (k p e s m args below meth c H locs lv C P S L)
theorem mx_ldc {i : Nat} {v : Int32} (hd : decode M.2.1 pc = .ok (.ldc i, 2)) (hw : Cond.constant M.1.cls i v ∈ mx_tb) (k : mx_W l E M R mc ms K cells slots (pc + 2) ls (.int v :: st) hp) : mx_W l E M R mc ms K cells slots pc ls st hp :=
  fun p e s m args below meth c H locs lv C P S L => lv_ldc C.2.1 C.2.2.1 C.2.2.2.2.2.2.2.1 (C.2.2.2.2.2.2.2.2.1 _ hw) hd (k p e s m args below meth c H locs lv C P S L)
theorem mx_iload_n {k : Fin 4} {x : Int32} (hd : decode M.2.1 pc = .ok (.iload_n k, 1)) (hv : mx_at ls k.val = some (.int x)) (k : mx_W l E M R mc ms K cells slots (pc + 1) ls (.int x :: st) hp) : mx_W l E M R mc ms K cells slots pc ls st hp :=
  fun p e s m args below meth c H locs lv C P S L => lv_iload_n C.2.1 C.2.2.1 hd rfl (mx_get L hv) (k p e s m args below meth c H locs lv C P S L)
theorem mx_iload {i : Nat} {x : Int32} (hd : decode M.2.1 pc = .ok (.iload i, 2)) (hv : mx_at ls i = some (.int x)) (k : mx_W l E M R mc ms K cells slots (pc + 2) ls (.int x :: st) hp) : mx_W l E M R mc ms K cells slots pc ls st hp :=
  fun p e s m args below meth c H locs lv C P S L => lv_iload C.2.1 C.2.2.1 hd (mx_get L hv) (k p e s m args below meth c H locs lv C P S L)
theorem mx_aload_n {k : Fin 4} {x : Nat} (hd : decode M.2.1 pc = .ok (.aload_n k, 1)) (hv : mx_at ls k.val = some (.ref x)) (k : mx_W l E M R mc ms K cells slots (pc + 1) ls (.ref x :: st) hp) : mx_W l E M R mc ms K cells slots pc ls st hp :=
  fun p e s m args below meth c H locs lv C P S L => lv_aload_n C.2.1 C.2.2.1 hd rfl (mx_get L hv) (k p e s m args below meth c H locs lv C P S L)
theorem mx_aload {i : Nat} {x : Nat} (hd : decode M.2.1 pc = .ok (.aload i, 2)) (hv : mx_at ls i = some (.ref x)) (k : mx_W l E M R mc ms K cells slots (pc + 2) ls (.ref x :: st) hp) : mx_W l E M R mc ms K cells slots pc ls st hp :=
  fun p e s m args below meth c H locs lv C P S L => lv_aload C.2.1 C.2.2.1 hd (mx_get L hv) (k p e s m args below meth c H locs lv C P S L)
theorem mx_istore_n {k : Fin 4} {x : Int32} (hd : decode M.2.1 pc = .ok (.istore_n k, 1)) (hn : k.val < M.2.2.1) (kk : mx_W l E M R mc ms K cells slots (pc + 1) (mx_put ls k.val (.int x)) st hp) : mx_W l E M R mc ms K cells slots pc ls (.int x :: st) hp :=
  fun p e s m args below meth c H locs lv C P S L => lv_istore_n C.2.1 C.2.2.1 hd rfl L hn (mx_put_eq E.1 ls k.val (.int x)) (fun lv2 L2 => kk p e s m args below meth c H locs lv2 C P S L2)
theorem mx_istore {i : Nat} {x : Int32} (hd : decode M.2.1 pc = .ok (.istore i, 2)) (hn : i < M.2.2.1) (kk : mx_W l E M R mc ms K cells slots (pc + 2) (mx_put ls i (.int x)) st hp) : mx_W l E M R mc ms K cells slots pc ls (.int x :: st) hp :=
  fun p e s m args below meth c H locs lv C P S L => lv_istore C.2.1 C.2.2.1 hd L hn (mx_put_eq E.1 ls i (.int x)) (fun lv2 L2 => kk p e s m args below meth c H locs lv2 C P S L2)
theorem mx_astore_n {k : Fin 4} {x : Nat} (hd : decode M.2.1 pc = .ok (.astore_n k, 1)) (hn : k.val < M.2.2.1) (kk : mx_W l E M R mc ms K cells slots (pc + 1) (mx_put ls k.val (.ref x)) st hp) : mx_W l E M R mc ms K cells slots pc ls (.ref x :: st) hp :=
  fun p e s m args below meth c H locs lv C P S L => lv_astore_n C.2.1 C.2.2.1 hd rfl L hn (mx_put_eq E.1 ls k.val (.ref x)) (fun lv2 L2 => kk p e s m args below meth c H locs lv2 C P S L2)
theorem mx_astore {i : Nat} {x : Nat} (hd : decode M.2.1 pc = .ok (.astore i, 2)) (hn : i < M.2.2.1) (kk : mx_W l E M R mc ms K cells slots (pc + 2) (mx_put ls i (.ref x)) st hp) : mx_W l E M R mc ms K cells slots pc ls (.ref x :: st) hp :=
  fun p e s m args below meth c H locs lv C P S L => lv_astore C.2.1 C.2.2.1 hd L hn (mx_put_eq E.1 ls i (.ref x)) (fun lv2 L2 => kk p e s m args below meth c H locs lv2 C P S L2)
theorem mx_iinc {i : Nat} {n : Int} {x v : Int32} (hd : decode M.2.1 pc = .ok (.iinc i n, 3)) (hx : mx_at ls i = some (.int x)) (hv : x + Int32.ofInt n = v) (hn : i < M.2.2.1) (kk : mx_W l E M R mc ms K cells slots (pc + 3) (mx_put ls i (.int v)) st hp) : mx_W l E M R mc ms K cells slots pc ls st hp :=
  fun p e s m args below meth c H locs lv C P S L => by
    obtain ⟨k, hk⟩ := List.mem_iff_getElem?.mp (List.mem_map.mpr ⟨(i, Value.int x), mx_at_mem hx, rfl⟩ : (i, mx_v E.1 (.int x)) ∈ ls.map (fun q => (q.1, mx_v E.1 q.2)))
    exact lv_iinc C.2.1 C.2.2.1 hd L hk hv hn (mx_put_eq E.1 ls i (.int v)) (fun lv2 L2 => kk p e s m args below meth c H locs lv2 C P S L2)
theorem mx_iadd {x y : Int32} (hd : decode M.2.1 pc = .ok (.iadd, 1)) (k : mx_W l E M R mc ms K cells slots (pc + 1) ls (.int (x + y) :: st) hp) : mx_W l E M R mc ms K cells slots pc ls (.int y :: .int x :: st) hp :=
  fun p e s m args below meth c H locs lv C P S L => lv_iadd C.2.1 C.2.2.1 hd (k p e s m args below meth c H locs lv C P S L)
theorem mx_isub {x y : Int32} (hd : decode M.2.1 pc = .ok (.isub, 1)) (k : mx_W l E M R mc ms K cells slots (pc + 1) ls (.int (x - y) :: st) hp) : mx_W l E M R mc ms K cells slots pc ls (.int y :: .int x :: st) hp :=
  fun p e s m args below meth c H locs lv C P S L => lv_isub C.2.1 C.2.2.1 hd (k p e s m args below meth c H locs lv C P S L)
theorem mx_imul {x y : Int32} (hd : decode M.2.1 pc = .ok (.imul, 1)) (k : mx_W l E M R mc ms K cells slots (pc + 1) ls (.int (x * y) :: st) hp) : mx_W l E M R mc ms K cells slots pc ls (.int y :: .int x :: st) hp :=
  fun p e s m args below meth c H locs lv C P S L => lv_imul C.2.1 C.2.2.1 hd (k p e s m args below meth c H locs lv C P S L)
theorem mx_iand {x y : Int32} (hd : decode M.2.1 pc = .ok (.iand, 1)) (k : mx_W l E M R mc ms K cells slots (pc + 1) ls (.int (x &&& y) :: st) hp) : mx_W l E M R mc ms K cells slots pc ls (.int y :: .int x :: st) hp :=
  fun p e s m args below meth c H locs lv C P S L => lv_iand C.2.1 C.2.2.1 hd (k p e s m args below meth c H locs lv C P S L)
theorem mx_ior {x y : Int32} (hd : decode M.2.1 pc = .ok (.ior, 1)) (k : mx_W l E M R mc ms K cells slots (pc + 1) ls (.int (x ||| y) :: st) hp) : mx_W l E M R mc ms K cells slots pc ls (.int y :: .int x :: st) hp :=
  fun p e s m args below meth c H locs lv C P S L => lv_ior C.2.1 C.2.2.1 hd (k p e s m args below meth c H locs lv C P S L)
theorem mx_ixor {x y : Int32} (hd : decode M.2.1 pc = .ok (.ixor, 1)) (k : mx_W l E M R mc ms K cells slots (pc + 1) ls (.int (x ^^^ y) :: st) hp) : mx_W l E M R mc ms K cells slots pc ls (.int y :: .int x :: st) hp :=
  fun p e s m args below meth c H locs lv C P S L => lv_ixor C.2.1 C.2.2.1 hd (k p e s m args below meth c H locs lv C P S L)
theorem mx_ishl {x y : Int32} (hd : decode M.2.1 pc = .ok (.ishl, 1)) (k : mx_W l E M R mc ms K cells slots (pc + 1) ls (.int (x <<< (y &&& 31)) :: st) hp) : mx_W l E M R mc ms K cells slots pc ls (.int y :: .int x :: st) hp :=
  fun p e s m args below meth c H locs lv C P S L => lv_ishl C.2.1 C.2.2.1 hd (k p e s m args below meth c H locs lv C P S L)
theorem mx_ishr {x y : Int32} (hd : decode M.2.1 pc = .ok (.ishr, 1)) (k : mx_W l E M R mc ms K cells slots (pc + 1) ls (.int (x >>> (y &&& 31)) :: st) hp) : mx_W l E M R mc ms K cells slots pc ls (.int y :: .int x :: st) hp :=
  fun p e s m args below meth c H locs lv C P S L => lv_ishr C.2.1 C.2.2.1 hd (k p e s m args below meth c H locs lv C P S L)
theorem mx_idiv {x y : Int32} (hd : decode M.2.1 pc = .ok (.idiv, 1)) (hy : ¬ y = 0) (k : mx_W l E M R mc ms K cells slots (pc + 1) ls (.int (x / y) :: st) hp) : mx_W l E M R mc ms K cells slots pc ls (.int y :: .int x :: st) hp :=
  fun p e s m args below meth c H locs lv C P S L => lv_idiv C.2.1 C.2.2.1 hd hy (k p e s m args below meth c H locs lv C P S L)
theorem mx_irem {x y : Int32} (hd : decode M.2.1 pc = .ok (.irem, 1)) (hy : ¬ y = 0) (k : mx_W l E M R mc ms K cells slots (pc + 1) ls (.int (x - x / y * y) :: st) hp) : mx_W l E M R mc ms K cells slots pc ls (.int y :: .int x :: st) hp :=
  fun p e s m args below meth c H locs lv C P S L => lv_irem C.2.1 C.2.2.1 hd hy (k p e s m args below meth c H locs lv C P S L)
theorem mx_ineg {x : Int32} (hd : decode M.2.1 pc = .ok (.ineg, 1)) (k : mx_W l E M R mc ms K cells slots (pc + 1) ls (.int (-x) :: st) hp) : mx_W l E M R mc ms K cells slots pc ls (.int x :: st) hp :=
  fun p e s m args below meth c H locs lv C P S L => lv_ineg C.2.1 C.2.2.1 hd (k p e s m args below meth c H locs lv C P S L)
theorem mx_iushr {x y : Int32} (hd : decode M.2.1 pc = .ok (.iushr, 1)) (k : mx_W l E M R mc ms K cells slots (pc + 1) ls (.int (x.toUInt32 >>> (y.toUInt32 &&& Int32.toUInt32 31)).toInt32 :: st) hp) : mx_W l E M R mc ms K cells slots pc ls (.int y :: .int x :: st) hp :=
  fun p e s m args below meth c H locs lv C P S L => lv_iushr C.2.1 C.2.2.1 hd rfl (k p e s m args below meth c H locs lv C P S L)
theorem mx_i2c {x : Int32} (hd : decode M.2.1 pc = .ok (.i2c, 1)) (k : mx_W l E M R mc ms K cells slots (pc + 1) ls (.int (x.toUInt32 % 65536).toInt32 :: st) hp) : mx_W l E M R mc ms K cells slots pc ls (.int x :: st) hp :=
  fun p e s m args below meth c H locs lv C P S L => lv_i2c C.2.1 C.2.2.1 hd rfl (k p e s m args below meth c H locs lv C P S L)
theorem mx_dup {a : Value} (hd : decode M.2.1 pc = .ok (.dup, 1)) (ha : a.category = 1) (k : mx_W l E M R mc ms K cells slots (pc + 1) ls (a :: a :: st) hp) : mx_W l E M R mc ms K cells slots pc ls (a :: st) hp :=
  fun p e s m args below meth c H locs lv C P S L => lv_dup C.2.1 C.2.2.1 hd (by rw [mx_v_cat]; exact ha) (k p e s m args below meth c H locs lv C P S L)
theorem mx_pop {a : Value} (hd : decode M.2.1 pc = .ok (.pop, 1)) (ha : a.category = 1) (k : mx_W l E M R mc ms K cells slots (pc + 1) ls st hp) : mx_W l E M R mc ms K cells slots pc ls (a :: st) hp :=
  fun p e s m args below meth c H locs lv C P S L => lv_pop C.2.1 C.2.2.1 hd (by rw [mx_v_cat]; exact ha) (k p e s m args below meth c H locs lv C P S L)
theorem mx_dup_x1 {a b : Value} (hd : decode M.2.1 pc = .ok (.dup_x1, 1)) (ha : a.category = 1) (hb : b.category = 1) (k : mx_W l E M R mc ms K cells slots (pc + 1) ls (a :: b :: a :: st) hp) : mx_W l E M R mc ms K cells slots pc ls (a :: b :: st) hp :=
  fun p e s m args below meth c H locs lv C P S L => lv_dup_x1 C.2.1 C.2.2.1 hd (by rw [mx_v_cat]; exact ha) (by rw [mx_v_cat]; exact hb) (k p e s m args below meth c H locs lv C P S L)
theorem mx_dup_x2 {a b d : Value} (hd : decode M.2.1 pc = .ok (.dup_x2, 1)) (ha : a.category = 1) (hb : b.category = 1) (hc : d.category = 1) (k : mx_W l E M R mc ms K cells slots (pc + 1) ls (a :: b :: d :: a :: st) hp) : mx_W l E M R mc ms K cells slots pc ls (a :: b :: d :: st) hp :=
  fun p e s m args below meth c H locs lv C P S L => lv_dup_x2 C.2.1 C.2.2.1 hd (by rw [mx_v_cat]; exact ha) (by rw [mx_v_cat]; exact hb) (by rw [mx_v_cat]; exact hc) (k p e s m args below meth c H locs lv C P S L)
theorem mx_dup2 {a b : Value} (hd : decode M.2.1 pc = .ok (.dup2, 1)) (ha : a.category = 1) (hb : b.category = 1) (k : mx_W l E M R mc ms K cells slots (pc + 1) ls (a :: b :: a :: b :: st) hp) : mx_W l E M R mc ms K cells slots pc ls (a :: b :: st) hp :=
  fun p e s m args below meth c H locs lv C P S L => lv_dup2_11 C.2.1 C.2.2.1 hd (by rw [mx_v_cat]; exact ha) (by rw [mx_v_cat]; exact hb) (k p e s m args below meth c H locs lv C P S L)
theorem mx_if_eq {x : Int32} {off : Int} {tgt : Nat} (hd : decode M.2.1 pc = .ok (.ifCond .eq off, 3)) (ht : (pc : Int) + off = (tgt : Int)) (kt : x = 0 → mx_W l E M R mc ms K cells slots tgt ls st hp) (kf : ¬ (x = 0) → mx_W l E M R mc ms K cells slots (pc + 3) ls st hp) : mx_W l E M R mc ms K cells slots pc ls (.int x :: st) hp :=
  fun p e s m args below meth c H locs lv C P S L => lv_if_eq C.2.1 C.2.2.1 hd ht (fun q => kt q p e s m args below meth c H locs lv C P S L) (fun q => kf q p e s m args below meth c H locs lv C P S L)
theorem mx_icmp_eq {x y : Int32} {off : Int} {tgt : Nat} (hd : decode M.2.1 pc = .ok (.if_icmp .eq off, 3)) (ht : (pc : Int) + off = (tgt : Int)) (kt : x = y → mx_W l E M R mc ms K cells slots tgt ls st hp) (kf : ¬ (x = y) → mx_W l E M R mc ms K cells slots (pc + 3) ls st hp) : mx_W l E M R mc ms K cells slots pc ls (.int y :: .int x :: st) hp :=
  fun p e s m args below meth c H locs lv C P S L => lv_icmp_eq C.2.1 C.2.2.1 hd ht (fun q => kt q p e s m args below meth c H locs lv C P S L) (fun q => kf q p e s m args below meth c H locs lv C P S L)
theorem mx_if_ne {x : Int32} {off : Int} {tgt : Nat} (hd : decode M.2.1 pc = .ok (.ifCond .ne off, 3)) (ht : (pc : Int) + off = (tgt : Int)) (kt : x ≠ 0 → mx_W l E M R mc ms K cells slots tgt ls st hp) (kf : x = 0 → mx_W l E M R mc ms K cells slots (pc + 3) ls st hp) : mx_W l E M R mc ms K cells slots pc ls (.int x :: st) hp :=
  fun p e s m args below meth c H locs lv C P S L => lv_if_ne C.2.1 C.2.2.1 hd ht (fun q => kt q p e s m args below meth c H locs lv C P S L) (fun q => kf q p e s m args below meth c H locs lv C P S L)
theorem mx_icmp_ne {x y : Int32} {off : Int} {tgt : Nat} (hd : decode M.2.1 pc = .ok (.if_icmp .ne off, 3)) (ht : (pc : Int) + off = (tgt : Int)) (kt : x ≠ y → mx_W l E M R mc ms K cells slots tgt ls st hp) (kf : x = y → mx_W l E M R mc ms K cells slots (pc + 3) ls st hp) : mx_W l E M R mc ms K cells slots pc ls (.int y :: .int x :: st) hp :=
  fun p e s m args below meth c H locs lv C P S L => lv_icmp_ne C.2.1 C.2.2.1 hd ht (fun q => kt q p e s m args below meth c H locs lv C P S L) (fun q => kf q p e s m args below meth c H locs lv C P S L)
theorem mx_if_lt {x : Int32} {off : Int} {tgt : Nat} (hd : decode M.2.1 pc = .ok (.ifCond .lt off, 3)) (ht : (pc : Int) + off = (tgt : Int)) (kt : x < 0 → mx_W l E M R mc ms K cells slots tgt ls st hp) (kf : ¬ (x < 0) → mx_W l E M R mc ms K cells slots (pc + 3) ls st hp) : mx_W l E M R mc ms K cells slots pc ls (.int x :: st) hp :=
  fun p e s m args below meth c H locs lv C P S L => lv_if_lt C.2.1 C.2.2.1 hd ht (fun q => kt q p e s m args below meth c H locs lv C P S L) (fun q => kf q p e s m args below meth c H locs lv C P S L)
theorem mx_icmp_lt {x y : Int32} {off : Int} {tgt : Nat} (hd : decode M.2.1 pc = .ok (.if_icmp .lt off, 3)) (ht : (pc : Int) + off = (tgt : Int)) (kt : x < y → mx_W l E M R mc ms K cells slots tgt ls st hp) (kf : ¬ (x < y) → mx_W l E M R mc ms K cells slots (pc + 3) ls st hp) : mx_W l E M R mc ms K cells slots pc ls (.int y :: .int x :: st) hp :=
  fun p e s m args below meth c H locs lv C P S L => lv_icmp_lt C.2.1 C.2.2.1 hd ht (fun q => kt q p e s m args below meth c H locs lv C P S L) (fun q => kf q p e s m args below meth c H locs lv C P S L)
theorem mx_if_ge {x : Int32} {off : Int} {tgt : Nat} (hd : decode M.2.1 pc = .ok (.ifCond .ge off, 3)) (ht : (pc : Int) + off = (tgt : Int)) (kt : 0 ≤ x → mx_W l E M R mc ms K cells slots tgt ls st hp) (kf : ¬ (0 ≤ x) → mx_W l E M R mc ms K cells slots (pc + 3) ls st hp) : mx_W l E M R mc ms K cells slots pc ls (.int x :: st) hp :=
  fun p e s m args below meth c H locs lv C P S L => lv_if_ge C.2.1 C.2.2.1 hd ht (fun q => kt q p e s m args below meth c H locs lv C P S L) (fun q => kf q p e s m args below meth c H locs lv C P S L)
theorem mx_icmp_ge {x y : Int32} {off : Int} {tgt : Nat} (hd : decode M.2.1 pc = .ok (.if_icmp .ge off, 3)) (ht : (pc : Int) + off = (tgt : Int)) (kt : y ≤ x → mx_W l E M R mc ms K cells slots tgt ls st hp) (kf : ¬ (y ≤ x) → mx_W l E M R mc ms K cells slots (pc + 3) ls st hp) : mx_W l E M R mc ms K cells slots pc ls (.int y :: .int x :: st) hp :=
  fun p e s m args below meth c H locs lv C P S L => lv_icmp_ge C.2.1 C.2.2.1 hd ht (fun q => kt q p e s m args below meth c H locs lv C P S L) (fun q => kf q p e s m args below meth c H locs lv C P S L)
theorem mx_if_gt {x : Int32} {off : Int} {tgt : Nat} (hd : decode M.2.1 pc = .ok (.ifCond .gt off, 3)) (ht : (pc : Int) + off = (tgt : Int)) (kt : 0 < x → mx_W l E M R mc ms K cells slots tgt ls st hp) (kf : ¬ (0 < x) → mx_W l E M R mc ms K cells slots (pc + 3) ls st hp) : mx_W l E M R mc ms K cells slots pc ls (.int x :: st) hp :=
  fun p e s m args below meth c H locs lv C P S L => lv_if_gt C.2.1 C.2.2.1 hd ht (fun q => kt q p e s m args below meth c H locs lv C P S L) (fun q => kf q p e s m args below meth c H locs lv C P S L)
theorem mx_icmp_gt {x y : Int32} {off : Int} {tgt : Nat} (hd : decode M.2.1 pc = .ok (.if_icmp .gt off, 3)) (ht : (pc : Int) + off = (tgt : Int)) (kt : y < x → mx_W l E M R mc ms K cells slots tgt ls st hp) (kf : ¬ (y < x) → mx_W l E M R mc ms K cells slots (pc + 3) ls st hp) : mx_W l E M R mc ms K cells slots pc ls (.int y :: .int x :: st) hp :=
  fun p e s m args below meth c H locs lv C P S L => lv_icmp_gt C.2.1 C.2.2.1 hd ht (fun q => kt q p e s m args below meth c H locs lv C P S L) (fun q => kf q p e s m args below meth c H locs lv C P S L)
theorem mx_if_le {x : Int32} {off : Int} {tgt : Nat} (hd : decode M.2.1 pc = .ok (.ifCond .le off, 3)) (ht : (pc : Int) + off = (tgt : Int)) (kt : x ≤ 0 → mx_W l E M R mc ms K cells slots tgt ls st hp) (kf : ¬ (x ≤ 0) → mx_W l E M R mc ms K cells slots (pc + 3) ls st hp) : mx_W l E M R mc ms K cells slots pc ls (.int x :: st) hp :=
  fun p e s m args below meth c H locs lv C P S L => lv_if_le C.2.1 C.2.2.1 hd ht (fun q => kt q p e s m args below meth c H locs lv C P S L) (fun q => kf q p e s m args below meth c H locs lv C P S L)
theorem mx_icmp_le {x y : Int32} {off : Int} {tgt : Nat} (hd : decode M.2.1 pc = .ok (.if_icmp .le off, 3)) (ht : (pc : Int) + off = (tgt : Int)) (kt : x ≤ y → mx_W l E M R mc ms K cells slots tgt ls st hp) (kf : ¬ (x ≤ y) → mx_W l E M R mc ms K cells slots (pc + 3) ls st hp) : mx_W l E M R mc ms K cells slots pc ls (.int y :: .int x :: st) hp :=
  fun p e s m args below meth c H locs lv C P S L => lv_icmp_le C.2.1 C.2.2.1 hd ht (fun q => kt q p e s m args below meth c H locs lv C P S L) (fun q => kf q p e s m args below meth c H locs lv C P S L)
theorem mx_goto {off : Int} {tgt : Nat} (hd : decode M.2.1 pc = .ok (.goto off, 3)) (ht : (pc : Int) + off = (tgt : Int)) (k : mx_W l E M R mc ms K cells slots tgt ls st hp) : mx_W l E M R mc ms K cells slots pc ls st hp :=
  fun p e s m args below meth c H locs lv C P S L => lv_goto C.2.1 C.2.2.1 hd ht (k p e s m args below meth c H locs lv C P S L)
theorem mx_tableOut {dflt lo hi : Int} {offs : Array Int} {len : Nat} {x : Int32} {tgt : Nat} (hd : decode M.2.1 pc = .ok (.tableswitch dflt lo hi offs, len)) (h : x.toInt < lo ∨ hi < x.toInt) (ht : (pc : Int) + dflt = (tgt : Int)) (k : mx_W l E M R mc ms K cells slots tgt ls st hp) : mx_W l E M R mc ms K cells slots pc ls (.int x :: st) hp :=
  fun p e s m args below meth c H locs lv C P S L => lv_tableOut C.2.1 C.2.2.1 hd h ht (k p e s m args below meth c H locs lv C P S L)
theorem mx_tableIn {dflt lo hi : Int} {offs : Array Int} {len : Nat} {x : Int32} {off : Int} {tgt : Nat} (hd : decode M.2.1 pc = .ok (.tableswitch dflt lo hi offs, len)) (h1 : ¬ x.toInt < lo) (h2 : ¬ hi < x.toInt) (ho : offs[(x.toInt - lo).toNat]? = some off) (ht : (pc : Int) + off = (tgt : Int)) (k : mx_W l E M R mc ms K cells slots tgt ls st hp) : mx_W l E M R mc ms K cells slots pc ls (.int x :: st) hp :=
  fun p e s m args below meth c H locs lv C P S L => lv_tableIn C.2.1 C.2.2.1 hd h1 h2 ho ht (k p e s m args below meth c H locs lv C P S L)
/-- what is known of a class by its number -/
def mx_cl (ci : Nat) (C : String) (T : u_T) (N : Nat) (ty : Nat → FieldType) : Prop := vwCl[ci]? = some (C, T, N) ∧ (∀ w ∈ u_ws C T N, w ∈ mx_tb) ∧ (∀ k, k < N → parseFieldDescriptor (T k).2.2.1 = some (ty k)) ∧ (∀ a, a < N → ∀ b, b < N → a ≠ b → (T a).2.1 ≠ (T b).2.1)
theorem mx_getfield {index i ci k N : Nat} {C : String} {T : u_T} {ty : Nat → FieldType} {fs : List Value} {v : Value} (hd : decode M.2.1 pc = .ok (.getfield index, 3)) (hc : mx_cl ci C T N ty) (hw : Cond.fieldLink M.1.cls index (T k).1 (T k).2.1 (T k).2.2.1 ∈ mx_tb) (hk : k < N) (hi : hp[i]? = some (.inr (ci, fs))) (hv : fs[k]? = some v) (kk : mx_W l E M R mc ms K cells slots (pc + 3) ls (v :: st) hp) : mx_W l E M R mc ms K cells slots pc ls (.ref i :: st) hp :=
  fun p e s m args below meth c H locs lv C0 P S L => va_get (own := M.1.cls) C0.2.1 C0.2.2.1 C0.2.2.2.2.2.2.2.2.1 hc.2.1 C0.2.2.2.2.2.2.2.1 C0.2.2.2.2.2.2.2.2.2.1 P.1 i (mx_w_at hi) hc.1 k hk (C0.2.2.2.2.2.2.2.2.1 _ hw) (fun _ h => h) (by rw [List.getElem?_map, hv]; rfl) hd (kk p e s m args below meth c H locs lv C0 P S L)
theorem mx_C.kn {p : Program} {s : State} {m : MethodId} {args : Array Value} {meth : Method} {c : Code} (C0 : mx_C E M p s m args meth c) : mx_K E s := C0.2.2.2.2.2.2.2.2.2.1
theorem mx_C.ts {p : Program} {s : State} {m : MethodId} {args : Array Value} {meth : Method} {c : Code} (C0 : mx_C E M p s m args meth c) : ∀ w ∈ mx_tb, w.before args s = true := C0.2.2.2.2.2.2.2.2.1
theorem mx_C.own {p : Program} {s : State} {m : MethodId} {args : Array Value} {meth : Method} {c : Code} (C0 : mx_C E M p s m args meth c) : s.vm.findClass M.1.cls = some m.cls := C0.2.2.2.2.2.2.2.1
theorem mx_C.nm {p : Program} {s : State} {m : MethodId} {args : Array Value} {meth : Method} {c : Code} (C0 : mx_C E M p s m args meth c) : meth.name = M.1.name := C0.2.2.2.2.2.2.1
theorem mx_putfield {index i ci k N : Nat} {C : String} {T : u_T} {ty : Nat → FieldType} {fs : List Value} {v : Value} (hd : decode M.2.1 pc = .ok (.putfield index, 3)) (hc : mx_cl ci C T N ty) (hw : Cond.fieldLink M.1.cls index (T k).1 (T k).2.1 (T k).2.2.1 ∈ mx_tb) (hk : k < N) (hf : (T k).2.2.2 = false ∨ ((T k).2.2.2 = true ∧ M.1.name = "<init>" ∧ (T k).1 = M.1.cls)) (hi : hp[i]? = some (.inr (ci, fs))) (hl : k < fs.length) (hn : narrow (ty k) (mx_v E.1 v) = mx_v E.1 v) (ht : fits (ty k) (mx_v E.1 v) = true) (kk : mx_W l E M R mc ms K cells slots (pc + 3) ls st (hp.set i (.inr (ci, fs.set k v)))) : mx_W l E M R mc ms K cells slots pc ls (v :: .ref i :: st) hp :=
  fun p e s m args below meth c H locs lv C0 P S L => by
    have hD := P.D C0.1
    have hwi := mx_w_at (r := E.1) (cA := E.2.1) hi
    have kk2 : ∀ (H1 : Heap) (locs1 : List Loc), va_P (E.2.2.1, E.2.2.2.1) vwCl ((mx_w E.1 E.2.1 hp).set i (E.1 i, .inr (ci, (fs.map (mx_v E.1)).set k (mx_v E.1 v)))) H1 → H1.size = H.size → va_S (mx_A E) s.heap H1 locs1 → W p l e R s m args below meth c H1 locs1 cells slots (MQ below (mx_Q E K) args s mc ms (mx_A E)) (F0 m (pc + 3) lv (st.map (mx_v E.1))) := by
      intro H1 locs1 hP hz hS
      have e1 : (mx_w E.1 E.2.1 hp).set i (E.1 i, .inr (ci, (fs.map (mx_v E.1)).set k (mx_v E.1 v))) = mx_w E.1 E.2.1 (hp.set i (.inr (ci, fs.set k v))) := by
        rw [← mx_w_set]
        simp [mx_e, List.map_set]
      rw [e1] at hP
      exact kk p e s m args below meth c H1 locs1 lv C0 ⟨hP, by rw [hz, List.length_set]; exact P.2.1, by rw [List.length_set]; exact P.2.2⟩ hS L
    have hap := va_apart (own := M.1.cls) C0.ts hc.2.1 ty hc.2.2.1 hc.2.2.2 C0.kn hc.1
    obtain ⟨r0, h1, cell, q1, q2, q3, q4⟩ := P.1 i _ hwi
    have hr : r0 = (C, T, N) := Option.some.inj (h1.symm.trans hc.1)
    subst hr
    obtain ⟨hSl, hfc, kC, hkC, hkind⟩ := C0.kn.1 ci _ hc.1
    obtain ⟨cf, kf, fi, f, hfi, hsl⟩ := hSl k hk
    have hlay := C0.ts _ (hc.2.1 _ (u_in_lay hk))
    have hst := (u_facts hfc hkC (u_lays C0.ts hc.2.1 hk) hfi).1
    have fin : ∀ (H' : Heap), H'[E.1 i]? = some (cell.setSlot f.slot (mx_v E.1 v)) → H'.size = H.size → (∀ q, q ≠ E.1 i → H'[q]? = H[q]?) → W p l e R s m args below meth c H' (locs ++ [⟨E.1 i, f.slot⟩]) cells slots (MQ below (mx_Q E K) args s mc ms (mx_A E)) (F0 m (pc + 3) lv (st.map (mx_v E.1))) := by
      intro H' e1 e2 e3
      rw [hsl] at e1 ⊢
      exact kk2 H' _ (P.1.set hD hwi ⟨_, hc.1, t_OB.to (V := updV (vp_V (fs.map (mx_v E.1))) k (mx_v E.1 v)) ⟨_, e1, q2, q3, t_set q4 hap hk (mx_v E.1 v)⟩ (fun j _ => vp_updV_set (by rw [List.length_map]; exact hl) (mx_v E.1 v) j)⟩ e3) e2 (S.put e2 e3 (hD.2 i _ hwi))
    unfold u_lay at hlay
    rcases hf with hf | ⟨hf, hin2, hdecl⟩
    · rw [if_neg (by rw [hf]; decide)] at hlay
      have h6 := u_store hfc hkC hkind hlay hfi (hc.2.2.1 k hk) hn ht
      exact W.putK (own := M.1.cls) C0.2.1 C0.2.2.1 (f := f) ⟨C0.own, C0.ts _ hw, ⟨_, _, _, hfi⟩, hst⟩ (by rw [q2]; exact h6) q1 q3 (by rw [hsl]; exact k2_hasslot (q4 k hk)) rfl rfl hd fin
    · rw [if_pos hf] at hlay
      have hcf : m.cls = cf := by
        obtain ⟨_, _, c', _, _, _, -, -, hf', -, -, -, hown2, -⟩ := Cond.laysFinal_spec hlay
        have e1 : c' = cf := by have := hfi.symm.trans hf'; simp at this; exact this.1.symm
        rw [hdecl] at hown2
        rw [← e1]; exact Option.some.inj (C0.own.symm.trans hown2)
      have h6 := u_fits hfc hkC hkind (Or.inr hlay) hfi (hc.2.2.1 k hk) hn ht
      exact W.putFinK (own := M.1.cls) C0.2.1 C0.2.2.1 C0.own (C0.ts _ hw) hfi hst hcf (C0.nm.trans hin2) (by rw [q2]; exact h6) q1 q3 (by rw [hsl]; exact k2_hasslot (q4 k hk)) rfl rfl hd fin
theorem mx_iaload {i n : Nat} {f : Nat → Int32} {j : Int32} (hd : decode M.2.1 pc = .ok (.iaload, 1)) (hi : hp[i]? = some (.inl (0, n, .inl f))) (hj : vp_in j n) (kk : mx_W l E M R mc ms K cells slots (pc + 1) ls (.int (f j.toNatClampNeg) :: st) hp) : mx_W l E M R mc ms K cells slots pc ls (.int j :: .ref i :: st) hp :=
  fun p e s m args below meth c H locs lv C0 P S L => va_iald C0.2.1 C0.2.2.1 C0.kn P.1 i 0 (mx_w_at hi) rfl hj hd (kk p e s m args below meth c H locs lv C0 P S L)
theorem mx_zaload {i n : Nat} {f : Nat → Int32} {j : Int32} (hd : decode M.2.1 pc = .ok (.baload, 1)) (hi : hp[i]? = some (.inl (1, n, .inl f))) (hj : vp_in j n) (kk : mx_W l E M R mc ms K cells slots (pc + 1) ls (.int (f j.toNatClampNeg) :: st) hp) : mx_W l E M R mc ms K cells slots pc ls (.int j :: .ref i :: st) hp :=
  fun p e s m args below meth c H locs lv C0 P S L => va_zald C0.2.1 C0.2.2.1 C0.kn P.1 i 1 (mx_w_at hi) rfl hj hd (kk p e s m args below meth c H locs lv C0 P S L)
theorem mx_alen {i t n : Nat} {a : vp_A} (hd : decode M.2.1 pc = .ok (.arraylength, 1)) (hi : hp[i]? = some (.inl (t, a))) (ht : t < 4) (kk : mx_W l E M R mc ms K cells slots (pc + 1) ls (.int (Int32.ofNat a.1) :: st) hp) : mx_W l E M R mc ms K cells slots pc ls (.ref i :: st) hp :=
  fun p e s m args below meth c H locs lv C0 P S L => by
    have hw := mx_w_at (r := E.1) (cA := E.2.1) hi
    have hg := kk p e s m args below meth c H locs lv C0 P S L
    match t, ht, hw with
    | 0, _, hw => exact va_alen C0.2.1 C0.2.2.1 C0.kn P.1 i 0 hw (ty := .int) rfl rfl hd hg
    | 1, _, hw => exact va_alen C0.2.1 C0.2.2.1 C0.kn P.1 i 1 hw (ty := .boolean) rfl rfl hd hg
    | 2, _, hw => exact va_alen C0.2.1 C0.2.2.1 C0.kn P.1 i 2 hw (ty := .byte) rfl rfl hd hg
    | 3, _, hw => exact va_alen C0.2.1 C0.2.2.1 C0.kn P.1 i 3 hw (ty := .char) rfl rfl hd hg
theorem mx_iastore {i n : Nat} {f : Nat → Int32} {j x : Int32} (hd : decode M.2.1 pc = .ok (.iastore, 1)) (hi : hp[i]? = some (.inl (0, n, .inl f))) (hj : vp_in j n) (kk : mx_W l E M R mc ms K cells slots (pc + 1) ls st (hp.set i (.inl (0, n, .inl (upd f j.toNatClampNeg x))))) : mx_W l E M R mc ms K cells slots pc ls (.int x :: .int j :: .ref i :: st) hp :=
  fun p e s m args below meth c H locs lv C0 P S L => by
    have hD := P.D C0.1
    have hwi := mx_w_at (r := E.1) (cA := E.2.1) hi
    refine W.iast C0.2.1 C0.2.2.1 (P.1 i _ hwi) ((C0.kn.2 0 _ rfl).1 n (fun j => .int (f j))) (fun q => by cases q) (by show ¬ (j < 0 ∨ (arrV _ _ _).slots.size ≤ _); rw [arrV_size]; exact hj) rfl rfl hd fun H1 e1 z oq => ?_
    have hP := P.1.set (e := .inl (E.2.1 0, n, .inl (upd f j.toNatClampNeg x))) hD hwi (H1 := H1) (by
      show H1[E.1 i]? = some (vp_cell _ _)
      rw [e1]
      show some ((vp_cell (E.2.1 0) (n, .inl f)).setSlot _ _) = _
      rw [vp_cell_i, vp_cell_i, arrV_store]
      congr 2
      funext q
      by_cases hq : q = j.toNatClampNeg
      · subst hq
        simp [updV, upd, vp_nar]
        try rfl
      · simp [updV, upd, hq]) oq
    rw [show (E.1 i, (Sum.inl (E.2.1 0, n, .inl (upd f j.toNatClampNeg x)) : va_E)) = (E.1 i, mx_e E.1 E.2.1 (.inl (0, n, .inl (upd f j.toNatClampNeg x)))) from rfl, mx_w_set] at hP
    exact kk p e s m args below meth c H1 _ lv C0 ⟨hP, by rw [z, List.length_set]; exact P.2.1, by rw [List.length_set]; exact P.2.2⟩ (S.put z oq (hD.2 i _ hwi)) L
theorem mx_zastore {i n : Nat} {f : Nat → Int32} {j x : Int32} (hd : decode M.2.1 pc = .ok (.bastore, 1)) (hi : hp[i]? = some (.inl (1, n, .inl f))) (hj : vp_in j n) (kk : mx_W l E M R mc ms K cells slots (pc + 1) ls st (hp.set i (.inl (1, n, .inl (upd f j.toNatClampNeg (vp_nar .boolean x)))))) : mx_W l E M R mc ms K cells slots pc ls (.int x :: .int j :: .ref i :: st) hp :=
  fun p e s m args below meth c H locs lv C0 P S L => by
    have hD := P.D C0.1
    have hwi := mx_w_at (r := E.1) (cA := E.2.1) hi
    refine W.zast C0.2.1 C0.2.2.1 (P.1 i _ hwi) ((C0.kn.2 1 _ rfl).1 n (fun j => .int (f j))) (fun q => by cases q) (by show ¬ (j < 0 ∨ (arrV _ _ _).slots.size ≤ _); rw [arrV_size]; exact hj) rfl rfl hd fun H1 e1 z oq => ?_
    have hP := P.1.set (e := .inl (E.2.1 1, n, .inl (upd f j.toNatClampNeg (vp_nar .boolean x)))) hD hwi (H1 := H1) (by
      show H1[E.1 i]? = some (vp_cell _ _)
      rw [e1]
      show some ((vp_cell (E.2.1 1) (n, .inl f)).setSlot _ _) = _
      rw [vp_cell_i, vp_cell_i, arrV_store]
      congr 2
      funext q
      by_cases hq : q = j.toNatClampNeg
      · subst hq
        simp [updV, upd, vp_nar]
        try rfl
      · simp [updV, upd, hq]) oq
    rw [show (E.1 i, (Sum.inl (E.2.1 1, n, .inl (upd f j.toNatClampNeg (vp_nar .boolean x))) : va_E)) = (E.1 i, mx_e E.1 E.2.1 (.inl (1, n, .inl (upd f j.toNatClampNeg (vp_nar .boolean x))))) from rfl, mx_w_set] at hP
    exact kk p e s m args below meth c H1 _ lv C0 ⟨hP, by rw [z, List.length_set]; exact P.2.1, by rw [List.length_set]; exact P.2.2⟩ (S.put z oq (hD.2 i _ hwi)) L
theorem mx_P.push {hp : List va_E} {H H1 : Heap} {x : va_E} (hE : mx_ok E) (P : mx_P E hp H) (hl : hp.length < 600000) (z : H1.size = H.size + 1) (o : ∀ q, q < H.size → H1[q]? = H[q]?) (hx : va_at (E.2.2.1, E.2.2.2.1) vwCl (H.size, mx_e E.1 E.2.1 x) H1) : mx_P E (hp ++ [x]) H1 := by
  refine ⟨?_, by rw [z, P.2.1, List.length_append]; rfl, by rw [List.length_append]; exact hl⟩
  rw [← mx_w_push]
  have hr : E.1 hp.length = H.size := by rw [hE.1 _ (by omega), P.2.1]
  rw [hr]
  refine (P.1.kept (fun k q hk => o q.1 ((P.1 k q hk).lt))).app (fun k q hk => ?_)
  have hz : k < 1 := (List.getElem?_eq_some_iff.mp hk).1
  rw [show k = 0 by omega] at hk
  cases hk
  exact hx
theorem mx_S.push {A : Nat → Prop} {H0 H H1 : Heap} {locs : List Loc} (S : va_S A H0 H locs) (z : H1.size = H.size + 1) (o : ∀ q, q < H.size → H1[q]? = H[q]?) : va_S A H0 H1 locs :=
  ⟨Nat.le_trans S.1 (by omega), fun q h1 h2 => (o q (Nat.lt_of_lt_of_le h1 S.1)).trans (S.2.1 q h1 h2), S.2.2⟩
theorem mx_new {index ci N : Nat} {C : String} {T : u_T} {ty : Nat → FieldType} {fs : List Value} (hd : decode M.2.1 pc = .ok (.new index, 3)) (hc : mx_cl ci C T N ty) (hw : Cond.classLink M.1.cls index C ∈ mx_tb) (hw2 : Cond.instantiable C N ∈ mx_tb) (hw3 : Cond.initialized C ∈ mx_tb) (hfs : ∀ j, j < N → defaultValue (ty j) = vp_V (fs.map (mx_v E.1)) j) (hcells : cells + 1 ≤ R.cells) (hslots : slots + N ≤ R.slots) (hl : hp.length < 600000) (kk : mx_W l E M R mc ms K (cells + 1) (slots + N) (pc + 3) ls (.ref hp.length :: st) (hp ++ [.inr (ci, fs)])) : mx_W l E M R mc ms K cells slots pc ls st hp :=
  fun p e s m args below meth c H locs lv C0 P S L => by
    have hKn := C0.kn.1 ci _ hc.1
    refine W.newcK (own := M.1.cls) C0.2.1 C0.2.2.1 C0.own (C0.ts _ hw) (C0.ts _ hw2) (C0.ts _ hw3) rfl hd hcells hslots hKn.2.1 rfl fun H1 kC hkC e1 z1 o1 => ?_
    have hr : E.1 hp.length = H.size := by rw [C0.1.1 _ (by omega), P.2.1]
    have hg := kk p e s m args below meth c H1 locs lv C0 (mx_P.push (x := .inr (ci, fs)) C0.1 P hl z1 o1 ⟨_, hc.1, (u_born ty C0.ts hc.2.1 hKn hkC e1 hc.2.2.1).to hfs⟩) (mx_S.push S z1 o1) L
    rw [List.map_cons, show mx_v E.1 (.ref hp.length) = .ref H.size from congrArg Value.ref hr] at hg
    exact hg
theorem mx_newi {n : Int32} {N : Nat} (hd : decode M.2.1 pc = .ok (.newarray .int, 2)) (hw : Cond.arrayClass .int ∈ mx_tb) (hn : ¬ n < 0) (hN : n.toNatClampNeg = N) (hb : N ≤ 1000000) (hcells : cells + 1 ≤ R.cells) (hslots : slots + N ≤ R.slots) (hl : hp.length < 600000) (kk : mx_W l E M R mc ms K (cells + 1) (slots + N) (pc + 2) ls (.ref hp.length :: st) (hp ++ [.inl (0, N, .inl (fun _ => 0))])) : mx_W l E M R mc ms K cells slots pc ls (.int n :: st) hp :=
  fun p e s m args below meth c H locs lv C0 P S L => by
    refine va_newaK C0.2.1 C0.2.2.1 (atype := .int) (C0.ts _ hw) rfl hd rfl hn hN (by show N * 4 ≤ _; omega) hcells hslots rfl fun H1 cA e1 z1 o1 hAr hNm => ?_
    have hr : E.1 hp.length = H.size := by rw [C0.1.1 _ (by omega), P.2.1]
    have hcA : cA = E.2.1 0 := Option.some.inj (hNm.symm.trans (C0.kn.2 0 _ rfl).2)
    have hg := kk p e s m args below meth c H1 locs lv C0 (mx_P.push (x := .inl (0, N, .inl (fun _ => 0))) C0.1 P hl z1 o1 (by rw [← hr] at e1; show H1[H.size]? = _; rw [← hr, e1, hcA]; rfl)) (mx_S.push S z1 o1) L
    rw [List.map_cons, show mx_v E.1 (.ref hp.length) = .ref H.size from congrArg Value.ref hr] at hg
    exact hg
theorem mx_newz {n : Int32} {N : Nat} (hd : decode M.2.1 pc = .ok (.newarray .boolean, 2)) (hw : Cond.arrayClass .boolean ∈ mx_tb) (hn : ¬ n < 0) (hN : n.toNatClampNeg = N) (hb : N ≤ 1000000) (hcells : cells + 1 ≤ R.cells) (hslots : slots + N ≤ R.slots) (hl : hp.length < 600000) (kk : mx_W l E M R mc ms K (cells + 1) (slots + N) (pc + 2) ls (.ref hp.length :: st) (hp ++ [.inl (1, N, .inl (fun _ => 0))])) : mx_W l E M R mc ms K cells slots pc ls (.int n :: st) hp :=
  fun p e s m args below meth c H locs lv C0 P S L => by
    refine va_newaK C0.2.1 C0.2.2.1 (atype := .boolean) (C0.ts _ hw) rfl hd rfl hn hN (by show N * 1 ≤ _; omega) hcells hslots rfl fun H1 cA e1 z1 o1 hAr hNm => ?_
    have hr : E.1 hp.length = H.size := by rw [C0.1.1 _ (by omega), P.2.1]
    have hcA : cA = E.2.1 1 := Option.some.inj (hNm.symm.trans (C0.kn.2 1 _ rfl).2)
    have hg := kk p e s m args below meth c H1 locs lv C0 (mx_P.push (x := .inl (1, N, .inl (fun _ => 0))) C0.1 P hl z1 o1 (by rw [← hr] at e1; show H1[H.size]? = _; rw [← hr, e1, hcA]; rfl)) (mx_S.push S z1 o1) L
    rw [List.map_cons, show mx_v E.1 (.ref hp.length) = .ref H.size from congrArg Value.ref hr] at hg
    exact hg
theorem mx_end {hp : List va_E} {H : Heap} {s t : State} {args : Array Value} {locs : List Loc} {v : Option Value} (hK : K v hp) (P : mx_P E hp H) (S : va_S (mx_A E) s.heap H locs) (ht : t.heap = H) : mx_Q E K args s (.returned (v.map (mx_v E.1))) t := ⟨⟨v, hp, rfl, hK, by rw [ht]; exact P⟩, S.F ht⟩
theorem mx_ireturn {v : Int32} (hd : decode M.2.1 pc = .ok (.ireturn, 1)) (hr : M.2.2.2 = some .int ∨ (M.2.2.2 = some .boolean ∧ (v = 0 ∨ v = 1))) (hc : cells ≤ mc) (hs : slots ≤ ms) (hK : K (some (.int v)) hp) : mx_W l E M R mc ms K cells slots pc ls [.int v] hp :=
  fun p e s m args below meth c H locs lv C0 P S L => W.widen hc hs (by
    have hlocks := C0.2.2.2.2.2.1
    rcases hr with hr | ⟨hr, hv⟩
    · exact W.iret C0.2.1 C0.2.2.1 (C0.2.2.2.2.1.trans hr) (fun t ht hW => mx_end hK P S ht) S.2.2 hd hlocks
    · exact W.zret C0.2.1 C0.2.2.1 (C0.2.2.2.2.1.trans hr) (by rcases hv with rfl | rfl <;> rfl) (fun t ht hW => mx_end hK P S ht) S.2.2 hd hlocks)
theorem mx_return (hd : decode M.2.1 pc = .ok (.return_, 1)) (hr : M.2.2.2 = none) (hc : cells ≤ mc) (hs : slots ≤ ms) (hK : K none hp) : mx_W l E M R mc ms K cells slots pc ls [] hp :=
  fun p e s m args below meth c H locs lv C0 P S L => W.widen hc hs (W.vret C0.2.1 C0.2.2.1 (C0.2.2.2.2.1.trans hr) (fun t ht hW => mx_end hK P S ht) S.2.2 hd C0.2.2.2.2.2.1)
theorem mx_sld {j : Int32} (hd : decode M.2.1 pc = .ok (.iaload, 1)) (hj : vp_in j E.2.2.2.2.2.2.1) (kk : mx_W l E M R mc ms K cells slots (pc + 1) ls (.int (E.2.2.2.2.2.2.2 j.toNatClampNeg) :: st) hp) : mx_W l E M R mc ms K cells slots pc ls (.int j :: .ref 1000000 :: st) hp :=
  fun p e s m args below meth c H locs lv C0 P S L => by
    have hX := C0.2.2.2.2.2.2.2.2.2.2.2
    have hg := va_sld C0.2.1 C0.2.2.1 hX (Nat.lt_of_lt_of_le C0.1.2.1 C0.2.2.2.2.2.2.2.2.2.2.1) (Nat.not_le.mpr C0.1.2.1) S hj hd (kk p e s m args below meth c H locs lv C0 P S L)
    rw [← C0.1.2.2.1] at hg
    exact hg
theorem mx_slen (hd : decode M.2.1 pc = .ok (.arraylength, 1)) (kk : mx_W l E M R mc ms K cells slots (pc + 1) ls (.int (Int32.ofNat E.2.2.2.2.2.2.1) :: st) hp) : mx_W l E M R mc ms K cells slots pc ls (.ref 1000000 :: st) hp :=
  fun p e s m args below meth c H locs lv C0 P S L => by
    have hX := C0.2.2.2.2.2.2.2.2.2.2.2
    have hg := va_slen C0.2.1 C0.2.2.1 hX (Nat.lt_of_lt_of_le C0.1.2.1 C0.2.2.2.2.2.2.2.2.2.2.1) (Nat.not_le.mpr C0.1.2.1) S hd (kk p e s m args below meth c H locs lv C0 P S L)
    rw [← C0.1.2.2.1] at hg
    exact hg
end MX
end
section
/-! ===== CONTRACTS AND CALLS of the pure machine ===== -/
/-- a method's words -/
def mx_ws (M : mx_Me) : List Cond := .code M.1 M.2.1 M.2.2.1 M.2.2.2 :: mx_tb
/-- a method's contract: from the world hp with these arguments it returns, and K holds of answer and world -/
def mx_M (l : Launch) (E : mx_Ev) (M : mx_Me) (rm : Room) (av : List Value) (hp : List va_E) (K : Option Value → List va_E → Prop) : Prop :=
  Met l M.1 (mx_ws M) rm (va_Pc (av.map (mx_v E.1)) (fun U => mx_P E hp U.heap ∧ mx_K E U ∧ va_X E.2.2.2.2.2.1 E.2.2.2.2.2.2.1 E.2.2.2.2.2.2.2 U U.heap)) (mx_Q E K) rm.cells rm.slots (mx_A E)
/-- what the tables say of a method -/
def mx_me (M : mx_Me) (n : Nat) : Prop := Cond.code M.1 M.2.1 M.2.2.1 M.2.2.2 ∈ mx_tb ∧ Cond.initialized M.1.cls ∈ mx_tb ∧ plainName M.1.cls = true ∧ (M.1.cls ≠ "java/lang/invoke/MethodHandle" ∧ M.1.cls ≠ "java/lang/invoke/VarHandle" ∧ (parseMethodDescriptor M.1.desc).map (fun d => d.parameters.length) = some n)
theorem mx_goodIn {M : mx_Me} (h : Cond.code M.1 M.2.1 M.2.2.1 M.2.2.2 ∈ mx_tb) : GoodIn mx_tb (mx_ws M) := by
  intro w hw
  have hm : w ∈ mx_tb := by
    rcases List.mem_cons.mp hw with rfl | hw
    · exact h
    · exact hw
  exact ⟨hm, good_of_word (List.mem_filter.mp hm).2⟩
theorem mx_args (r : Nat → Nat) : ∀ (vs : List Value) (k : Nat), lv_args k (vs.map (mx_v r)) = (lv_args k vs).map (fun q => (q.1, mx_v r q.2))
  | [], _ => rfl
  | v :: vs, k => by
    simp only [List.map_cons, lv_args, mx_v_cat]
    rw [mx_args r vs]
theorem mx_sl_len (r : Nat → Nat) : ∀ av : List Value, (lg_sl (av.map (mx_v r))).length = (lg_sl av).length
  | [] => rfl
  | v :: vs => by
    have ih := mx_sl_len r vs
    simp only [lg_sl] at ih
    simp only [lg_sl, List.map_cons, List.flatMap_cons, List.length_append, mx_v_cat, ih]
    split <;> rfl
section MXC
variable {l : Launch} {E : mx_Ev} {M : mx_Me} {R : Room} {mc ms : Nat} {K : Option Value → List va_E → Prop} {cells slots pc : Nat} {ls : List (Nat × Value)} {st : List Value} {hp : List va_E}
theorem mx_intro {rm : Room} {av : List Value} {n : Nat} (hE : mx_ok E) (hme : mx_me M n) (hlen : (lg_sl av).length ≤ M.2.2.1) (h : mx_W l E M rm rm.cells rm.slots K 0 0 0 (lv_args 0 av) [] hp) : mx_M l E M rm av hp K := by
  refine Met.ofW (cc := M.2.1) (maxL := M.2.2.1) (ret := M.2.2.2) hme.2.2.1 rfl ?_
  intro p e s m args below meth c s₁ B hml hv
  obtain ⟨rfl, hP, hKn, hX⟩ := hv
  have hts := atoms_spec (ws := mx_ws M) B.pre
  have hle : (lg_sl (av.map (mx_v E.1))).length ≤ M.2.2.1 := by
    rw [mx_sl_len]; exact hlen
  have hl := lv_entry (av.map (mx_v E.1)) (n := M.2.2.1) hle
  rw [lg_entry_eq]
  rw [mx_args] at hl
  exact h p e s m _ below meth c s.heap [] _ ⟨hE, B.exec, B.bytes, hml, B.returns, B.notSynchronized, (name_of_methodNamed B.named B.method).1, findClass_of_methodNamed B.named, fun w hw => hts w (List.mem_cons_of_mem _ hw), hKn, by rw [hP.2.1]; exact Nat.le_add_right _ _, hX⟩ hP va_S.rf hl
/-- behind a call -/
theorem mx_behind {p : Program} {e : Env} {s : State} {m : MethodId} {args : Array Value} {below : List Frame} {meth : Method} {c : Code} {H : Heap} {locs : List Loc} {lv : Array Slot} {rc rs : Nat} {st0 rest : List Value} {a : Array Value} {K' : Option Value → List va_E → Prop}
    (hr : va_Run p l e R s m args below meth c H locs cells slots rc rs (F0 m pc lv st0) (rest.map (mx_v E.1)) (mx_Q E K' a) (mx_A E)) (C0 : mx_C E M p s m args meth c) (S : va_S (mx_A E) s.heap H locs) (L : lv_has lv M.2.2.1 (ls.map (fun q => (q.1, mx_v E.1 q.2))))
    (kk : ∀ (v : Option Value) (hp' : List va_E), K' v hp' → mx_W l E M R mc ms K (cells + rc) (slots + rs) (pc + 3) ls (v.toList ++ rest) hp') :
    W p l e R s m args below meth c H locs cells slots (MQ below (mx_Q E K) args s mc ms (mx_A E)) (F0 m pc lv st0) := by
  intro T hT X
  obtain ⟨v, st₀, t, T', L1, h0, X', hL, e1, e2, ⟨⟨v', hp', hv, hK', hP'⟩, hz, hk⟩, stp⟩ := hr T hT X
  cases hv
  rw [h0] at hz hk
  have hS' : va_S (mx_A E) s.heap T'.heap (locs ++ L1) := ⟨Nat.le_trans S.1 (by rw [e1]; exact hz), fun q h1 h2 => by rw [e1, hk q (Nat.lt_of_lt_of_le h1 S.1) h2]; exact S.2.1 q h1 h2, fun q hq => by
    rcases List.mem_append.mp hq with h | h
    · exact S.2.2 q h
    · exact hL q h⟩
  have hg := kk v' hp' hK' p e s m args below meth c T'.heap (locs ++ L1) lv C0 (by rw [e1]; exact hP') hS' L
  rw [show (v'.toList ++ rest).map (mx_v E.1) = (v'.map (mx_v E.1)).toList ++ rest.map (mx_v E.1) by cases v' <;> simp] at hg
  obtain ⟨t2, a1, b1⟩ := hg T' rfl X'
  exact ⟨t2, stp t2 a1, b1⟩
theorem mx_pre {p : Program} {m : MethodId} {args : Array Value} {meth : Method} {c : Code} {s : State} {H : Heap} {locs : List Loc} {av : List Value} (C0 : mx_C E M p s m args meth c) (P : mx_P E hp H) (S : va_S (mx_A E) s.heap H locs) : PreS s H (va_Pc (av.map (mx_v E.1)) (fun U => mx_P E hp U.heap ∧ mx_K E U ∧ va_X E.2.2.2.2.2.1 E.2.2.2.2.2.2.1 E.2.2.2.2.2.2.2 U U.heap)) (av.map (mx_v E.1)) :=
  ⟨fun a U g mk q => ⟨q.1, q.2.1, va_K.moved (u := U) (U := U.calling g mk a) (Vm.Alike.refl U.vm) q.2.2.1, va_X.moved (u := U) (U := U.calling g mk a) (Vm.Alike.refl U.vm) q.2.2.2⟩, fun U hU hW => ⟨rfl, by rw [hU]; exact P, va_K.moved hW.alike C0.kn, by
    rw [hU]
    exact va_X.moved hW.alike (C0.2.2.2.2.2.2.2.2.2.2.2.kept (S.2.1 _ (Nat.lt_of_lt_of_le C0.1.2.1 C0.2.2.2.2.2.2.2.2.2.2.1) (Nat.not_le.mpr C0.1.2.1)))⟩⟩
theorem mx_sum {rest : List Value} (h : (rest.map fun v => v.category).sum ≤ 8) : ((rest.map (mx_v E.1)).map fun v => v.category).sum ≤ 8 := by
  rw [List.map_map]
  rw [show ((fun v : Value => v.category) ∘ mx_v E.1) = fun v => v.category from funext fun v => mx_v_cat E.1 v]
  exact h
theorem mx_invV {index i ci N n : Nat} {C : String} {T : u_T} {fs : List Value} {M' : mx_Me} {rm : Room} {K' : Option Value → List va_E → Prop} {As rest : List Value} (hd : decode M.2.1 pc = .ok (.invokevirtual index, 3)) (hi : hp[i]? = some (.inr (ci, fs))) (hc : vwCl[ci]? = some (C, T, N)) (hme : mx_me M' n) (hn : As.length = n) (hw : Cond.methodLink M.1.cls index M'.1 ∈ mx_tb ∧ Cond.instanceMethod M'.1 ∈ mx_tb ∧ Cond.selects C M'.1 M'.1 ∈ mx_tb) (hM : mx_M l E M' rm (.ref i :: As) hp K') (hR : rm.frames + 1 ≤ R.frames ∧ 8 + (M'.2.2.1 + 11) + rm.locals ≤ R.locals) (hs : (rest.map fun v => v.category).sum ≤ 8) (hf : cells + rm.cells ≤ R.cells ∧ slots + rm.slots ≤ R.slots)
    (kk : ∀ (v : Option Value) (hp' : List va_E), K' v hp' → mx_W l E M R mc ms K (cells + rm.cells) (slots + rm.slots) (pc + 3) ls (v.toList ++ rest) hp') : mx_W l E M R mc ms K cells slots pc ls (As.reverse ++ .ref i :: rest) hp :=
  fun p e s m args below meth c H locs lv C0 P S L => by
    have cb := callB_of (R := R) (rm := rm) (mc := rm.cells) (ms := rm.slots) n C0.ts (mx_goodIn hme.1) rfl rfl rfl (C0.ts _ hme.2.1) (C0.ts _ hw.1) hme.2.2.2 hR
    have hpre := mx_pre (av := .ref i :: As) C0 P S
    exact mx_behind (va_runV (As := As.map (mx_v E.1)) (rest := rest.map (mx_v E.1)) (b := E.1 i) ⟨C0.2.1, C0.2.2.1, C0.2.2.2.1, C0.own, C0.ts⟩ hM ⟨cb, C0.ts _ hw.2.1, C0.ts _ hw.2.2⟩ ⟨hpre.1, va_recv (ci := ci) (q0 := i) C0.kn P.1 hc (mx_w_at hi), hpre.2⟩ rfl (by rw [List.length_map]; exact hn) L.1 (by simp [mx_v]) (lv_room (mx_sum hs)) hd hf) C0 S L kk
theorem mx_invI {index i n : Nat} {M' : mx_Me} {rm : Room} {K' : Option Value → List va_E → Prop} {As rest : List Value} (hd : decode M.2.1 pc = .ok (.invokespecial index, 3)) (hme : mx_me M' n) (hnm : M'.1.name = "<init>") (hret : M'.2.2.2 = none) (hn : As.length = n) (hw : Cond.methodLink M.1.cls index M'.1 ∈ mx_tb ∧ Cond.instanceMethod M'.1 ∈ mx_tb) (hM : mx_M l E M' rm (.ref i :: As) hp K') (hR : rm.frames + 1 ≤ R.frames ∧ 8 + (M'.2.2.1 + 11) + rm.locals ≤ R.locals) (hs : (rest.map fun v => v.category).sum ≤ 8) (hf : cells + rm.cells ≤ R.cells ∧ slots + rm.slots ≤ R.slots)
    (kk : ∀ (v : Option Value) (hp' : List va_E), K' v hp' → mx_W l E M R mc ms K (cells + rm.cells) (slots + rm.slots) (pc + 3) ls (v.toList ++ rest) hp') : mx_W l E M R mc ms K cells slots pc ls (As.reverse ++ .ref i :: rest) hp :=
  fun p e s m args below meth c H locs lv C0 P S L => by
    obtain ⟨y', b', l', r'⟩ := M'
    subst hret
    have cb := callB_of (R := R) (rm := rm) (mc := rm.cells) (ms := rm.slots) n C0.ts (mx_goodIn hme.1) rfl rfl rfl (C0.ts _ hme.2.1) (C0.ts _ hw.1) hme.2.2.2 hR
    exact mx_behind (va_runI (As := As.map (mx_v E.1)) (rest := rest.map (mx_v E.1)) (b := E.1 i) ⟨C0.2.1, C0.2.2.1, C0.2.2.2.1, C0.own, C0.ts⟩ hM ⟨cb, hnm, C0.ts _ hw.2⟩ (mx_pre (av := .ref i :: As) C0 P S) rfl (by rw [List.length_map]; exact hn) L.1 (by simp [mx_v]) (lv_room (mx_sum hs)) hd hf) C0 S L kk
theorem mx_invS {index n : Nat} {M' : mx_Me} {rm : Room} {K' : Option Value → List va_E → Prop} {As rest : List Value} (hd : decode M.2.1 pc = .ok (.invokestatic index, 3)) (hme : mx_me M' n) (hn : As.length = n) (hw : Cond.methodLink M.1.cls index M'.1 ∈ mx_tb ∧ Cond.static M'.1 ∈ mx_tb) (hM : mx_M l E M' rm As hp K') (hR : rm.frames + 1 ≤ R.frames ∧ 8 + (M'.2.2.1 + 11) + rm.locals ≤ R.locals) (hs : (rest.map fun v => v.category).sum ≤ 8) (hf : cells + rm.cells ≤ R.cells ∧ slots + rm.slots ≤ R.slots)
    (kk : ∀ (v : Option Value) (hp' : List va_E), K' v hp' → mx_W l E M R mc ms K (cells + rm.cells) (slots + rm.slots) (pc + 3) ls (v.toList ++ rest) hp') : mx_W l E M R mc ms K cells slots pc ls (As.reverse ++ rest) hp :=
  fun p e s m args below meth c H locs lv C0 P S L => by
    have cb := callB_of (R := R) (rm := rm) (mc := rm.cells) (ms := rm.slots) n C0.ts (mx_goodIn hme.1) rfl rfl rfl (C0.ts _ hme.2.1) (C0.ts _ hw.1) hme.2.2.2 hR
    exact mx_behind (va_runS (As := As.map (mx_v E.1)) (rest := rest.map (mx_v E.1)) ⟨C0.2.1, C0.2.2.1, C0.2.2.2.1, C0.own, C0.ts⟩ hM ⟨cb, C0.ts _ hw.2⟩ (mx_pre (av := As) C0 P S) rfl (by rw [List.length_map]; exact hn) L.1 (by simp) (lv_room (mx_sum hs)) hd hf) C0 S L kk
theorem mx_objInit {index i : Nat} {rest : List Value} (hd : decode M.2.1 pc = .ok (.invokespecial index, 3)) (hw : Cond.methodLink M.1.cls index objectInit ∈ mx_tb) (hw2 : Cond.instanceMethod objectInit ∈ mx_tb) (hw3 : Cond.code objectInit ⟨#[0xb1]⟩ 1 none ∈ mx_tb) (hR : 1 ≤ R.frames ∧ 20 ≤ R.locals) (hs : (rest.map fun v => v.category).sum ≤ 8) (kk : mx_W l E M R mc ms K cells slots (pc + 3) ls rest hp) : mx_W l E M R mc ms K cells slots pc ls (.ref i :: rest) hp :=
  fun p e s m args below meth c H locs lv C0 P S L => by
    refine W.objInit (own := M.1.cls) C0.2.1 C0.2.2.1 C0.own (C0.ts _ hw) (C0.ts _ hw2) (C0.ts _ hw3) rfl (L.1.trans C0.2.2.2.1.symm) rfl hd hR.1 ?_ (kk p e s m args below meth c H locs lv C0 P S L)
    have := lv_room (m := m) (pc := pc) (ls := lv) (rest := List.map (mx_v E.1) (.ref i :: rest)) (mx_sum (E := E) hs)
    omega
end MXC
end
section
/-! ===== THE EVALUATOR: what the pure machine does, as a function; and that the machine does it ===== -/
abbrev mx_In : Type := Instr × Nat × Nat × Nat × Nat
abbrev mx_Pg : Type := List (mx_Me × Nat × List (Nat × mx_In))
abbrev mx_Cf : Type := Nat × List (Nat × Value) × List Value × List va_E × Nat × Nat
def mx_lk : List (Nat × mx_In) → Nat → Option mx_In
  | [], _ => none
  | q :: l, i => cond (Nat.beq q.1 i) (some q.2) (mx_lk l i)
theorem mx_lk_mem : ∀ {l : List (Nat × mx_In)} {i : Nat} {v : mx_In}, mx_lk l i = some v → (i, v) ∈ l
  | [], _, _, h => by cases h
  | q :: l, i, v, h => by
    unfold mx_lk at h
    by_cases hq : Nat.beq q.1 i = true
    · rw [hq] at h
      have e1 : q.1 = i := Nat.eq_of_beq_eq_true hq
      have e2 : q.2 = v := Option.some.inj h
      rw [← e1, ← e2]
      exact List.mem_cons_self
    · rw [Bool.not_eq_true] at hq
      rw [hq] at h
      exact List.mem_cons_of_mem _ (mx_lk_mem h)
def mx_c (ci : Nat) : vw_C := vwCl.getD ci (RX0, TX0, 0)
def mx_ty (ci : Nat) : Nat → FieldType := ([tyX0, tyX1, tyX2, tyX3, tyX4, tyX5, tyX6, tyX7, tyX8, tyX9, tyX10, tyX11, tyX12] : List (Nat → FieldType)).getD ci tyX0
def mx_fit : FieldType → Value → Bool
  | .int, .int _ => true
  | .boolean, .int x => x == 0 || x == 1
  | .object _, .null => true
  | .object _, .ref _ => true
  | .array _, .null => true
  | .array _, .ref _ => true
  | _, _ => false
def mx_in (j : Int32) (n : Nat) : Bool := decide (¬ (j < 0 ∨ n ≤ j.toNatClampNeg))
def mx_fs (ci : Nat) : List Value := (List.range (mx_c ci).2.2).map (fun j => defaultValue (mx_ty ci j))
def mx_cs (l : List Value) : Nat := (l.map fun v => v.category).sum
def mx_a_li (pc i : Nat) (ls : List (Nat × Value)) (st : List Value) (hp : List va_E) : Option mx_Cf := match mx_at ls i with
  | some (.int x) => some (pc, ls, .int x :: st, hp, 0, 0)
  | _ => none
def mx_a_la (pc i : Nat) (ls : List (Nat × Value)) (st : List Value) (hp : List va_E) : Option mx_Cf := match mx_at ls i with
  | some (.ref x) => some (pc, ls, .ref x :: st, hp, 0, 0)
  | _ => none
def mx_a_si (pc i : Nat) (ls : List (Nat × Value)) (st : List Value) (hp : List va_E) : Option mx_Cf := match st with
  | .int x :: r => some (pc, mx_put ls i (.int x), r, hp, 0, 0)
  | _ => none
def mx_a_sa (pc i : Nat) (ls : List (Nat × Value)) (st : List Value) (hp : List va_E) : Option mx_Cf := match st with
  | .ref x :: r => some (pc, mx_put ls i (.ref x), r, hp, 0, 0)
  | _ => none
def mx_a_inc (pc i : Nat) (n : Int) (ls : List (Nat × Value)) (st : List Value) (hp : List va_E) : Option mx_Cf := match mx_at ls i with
  | some (.int x) => some (pc, mx_put ls i (.int (x + Int32.ofInt n)), st, hp, 0, 0)
  | _ => none
def mx_a_1 (f : Int32 → Int32) (pc : Nat) (ls : List (Nat × Value)) (st : List Value) (hp : List va_E) : Option mx_Cf := match st with
  | .int x :: r => some (pc, ls, .int (f x) :: r, hp, 0, 0)
  | _ => none
def mx_a_2 (f : Int32 → Int32 → Int32) (pc : Nat) (ls : List (Nat × Value)) (st : List Value) (hp : List va_E) : Option mx_Cf := match st with
  | .int y :: .int x :: r => some (pc, ls, .int (f x y) :: r, hp, 0, 0)
  | _ => none
def mx_a_2n (f : Int32 → Int32 → Int32) (pc : Nat) (ls : List (Nat × Value)) (st : List Value) (hp : List va_E) : Option mx_Cf := match st with
  | .int y :: .int x :: r => cond (decide (y = 0)) none (some (pc, ls, .int (f x y) :: r, hp, 0, 0))
  | _ => none
def mx_a_b1 (t : Int32 → Bool) (tgt pc : Nat) (ls : List (Nat × Value)) (st : List Value) (hp : List va_E) : Option mx_Cf := match st with
  | .int x :: r => some (cond (t x) tgt pc, ls, r, hp, 0, 0)
  | _ => none
def mx_a_b2 (t : Int32 → Int32 → Bool) (tgt pc : Nat) (ls : List (Nat × Value)) (st : List Value) (hp : List va_E) : Option mx_Cf := match st with
  | .int y :: .int x :: r => some (cond (t x y) tgt pc, ls, r, hp, 0, 0)
  | _ => none
def mx_a_get (ci k pc : Nat) (ls : List (Nat × Value)) (st : List Value) (hp : List va_E) : Option mx_Cf := match st with
  | .ref i :: r => match hp[i]? with
    | some (.inr (cj, fs)) => cond (Nat.beq cj ci) (match fs[k]? with
      | some v => some (pc, ls, v :: r, hp, 0, 0)
      | none => none) none
    | _ => none
  | _ => none
def mx_a_put (ci k pc : Nat) (ls : List (Nat × Value)) (st : List Value) (hp : List va_E) : Option mx_Cf := match st with
  | v :: .ref i :: r => match hp[i]? with
    | some (.inr (cj, fs)) => cond (Nat.beq cj ci && Nat.blt k fs.length && mx_fit (mx_ty ci k) v) (some (pc, ls, r, hp.set i (.inr (cj, fs.set k v)), 0, 0)) none
    | _ => none
  | _ => none
def mx_a_ald (sc : Nat × (Nat → Int32)) (pc : Nat) (ls : List (Nat × Value)) (st : List Value) (hp : List va_E) : Option mx_Cf := match st with
  | .int j :: .ref i :: r => cond (Nat.beq i 1000000) (cond (mx_in j sc.1) (some (pc, ls, .int (sc.2 j.toNatClampNeg) :: r, hp, 0, 0)) none) (match hp[i]? with
    | some (.inl (0, n, .inl f)) => cond (mx_in j n) (some (pc, ls, .int (f j.toNatClampNeg) :: r, hp, 0, 0)) none
    | _ => none)
  | _ => none
def mx_a_zld (pc : Nat) (ls : List (Nat × Value)) (st : List Value) (hp : List va_E) : Option mx_Cf := match st with
  | .int j :: .ref i :: r => match hp[i]? with
    | some (.inl (1, n, .inl f)) => cond (mx_in j n) (some (pc, ls, .int (f j.toNatClampNeg) :: r, hp, 0, 0)) none
    | _ => none
  | _ => none
def mx_a_ast (pc : Nat) (ls : List (Nat × Value)) (st : List Value) (hp : List va_E) : Option mx_Cf := match st with
  | .int x :: .int j :: .ref i :: r => match hp[i]? with
    | some (.inl (0, n, .inl f)) => cond (mx_in j n) (some (pc, ls, r, hp.set i (.inl (0, n, .inl (upd f j.toNatClampNeg x))), 0, 0)) none
    | _ => none
  | _ => none
def mx_a_zst (pc : Nat) (ls : List (Nat × Value)) (st : List Value) (hp : List va_E) : Option mx_Cf := match st with
  | .int x :: .int j :: .ref i :: r => match hp[i]? with
    | some (.inl (1, n, .inl f)) => cond (mx_in j n) (some (pc, ls, r, hp.set i (.inl (1, n, .inl (upd f j.toNatClampNeg (vp_nar .boolean x)))), 0, 0)) none
    | _ => none
  | _ => none
def mx_a_len (sc : Nat × (Nat → Int32)) (pc : Nat) (ls : List (Nat × Value)) (st : List Value) (hp : List va_E) : Option mx_Cf := match st with
  | .ref i :: r => cond (Nat.beq i 1000000) (some (pc, ls, .int (Int32.ofNat sc.1) :: r, hp, 0, 0)) (match hp[i]? with
    | some (.inl (t, a)) => cond (Nat.blt t 4) (some (pc, ls, .int (Int32.ofNat a.1) :: r, hp, 0, 0)) none
    | _ => none)
  | _ => none
def mx_a_na (t pc : Nat) (ls : List (Nat × Value)) (st : List Value) (hp : List va_E) : Option mx_Cf := match st with
  | .int n :: r => cond (decide (¬ n < 0) && Nat.ble n.toNatClampNeg 1000000 && Nat.blt hp.length 600000) (some (pc, ls, .ref hp.length :: r, hp ++ [.inl (t, n.toNatClampNeg, .inl (fun _ => 0))], 1, n.toNatClampNeg)) none
  | _ => none
def mx_a_new (ci pc : Nat) (ls : List (Nat × Value)) (st : List Value) (hp : List va_E) : Option mx_Cf :=
  cond (Nat.blt hp.length 600000) (some (pc, ls, .ref hp.length :: st, hp ++ [.inr (ci, mx_fs ci)], 1, (mx_c ci).2.2)) none
def mx_a_dup (pc : Nat) (ls : List (Nat × Value)) (st : List Value) (hp : List va_E) : Option mx_Cf := match st with
  | a :: r => cond (Nat.beq a.category 1) (some (pc, ls, a :: a :: r, hp, 0, 0)) none
  | _ => none
def mx_a_pop (pc : Nat) (ls : List (Nat × Value)) (st : List Value) (hp : List va_E) : Option mx_Cf := match st with
  | a :: r => cond (Nat.beq a.category 1) (some (pc, ls, r, hp, 0, 0)) none
  | _ => none
def mx_a_dx1 (pc : Nat) (ls : List (Nat × Value)) (st : List Value) (hp : List va_E) : Option mx_Cf := match st with
  | a :: b :: r => cond (Nat.beq a.category 1 && Nat.beq b.category 1) (some (pc, ls, a :: b :: a :: r, hp, 0, 0)) none
  | _ => none
def mx_a_dx2 (pc : Nat) (ls : List (Nat × Value)) (st : List Value) (hp : List va_E) : Option mx_Cf := match st with
  | a :: b :: d :: r => cond (Nat.beq a.category 1 && Nat.beq b.category 1 && Nat.beq d.category 1) (some (pc, ls, a :: b :: d :: a :: r, hp, 0, 0)) none
  | _ => none
def mx_a_d2 (pc : Nat) (ls : List (Nat × Value)) (st : List Value) (hp : List va_E) : Option mx_Cf := match st with
  | a :: b :: r => cond (Nat.beq a.category 1 && Nat.beq b.category 1) (some (pc, ls, a :: b :: a :: b :: r, hp, 0, 0)) none
  | _ => none
def mx_a_ts (pc : Nat) (dflt lo hi : Int) (offs : Array Int) (ls : List (Nat × Value)) (st : List Value) (hp : List va_E) : Option mx_Cf := match st with
  | .int x :: r => cond (decide (x.toInt < lo ∨ hi < x.toInt)) (cond (decide (0 ≤ (pc : Int) + dflt)) (some (((pc : Int) + dflt).toNat, ls, r, hp, 0, 0)) none) (match offs[(x.toInt - lo).toNat]? with
    | some off => cond (decide (0 ≤ (pc : Int) + off)) (some (((pc : Int) + off).toNat, ls, r, hp, 0, 0)) none
    | none => none)
  | _ => none
def mx_G (l : Launch) (E : mx_Ev) (M : mx_Me) (R : Room) (mc ms : Nat) (K : Option Value → List va_E → Prop) (cells slots : Nat) (q : mx_Cf) : Prop := mx_W l E M R mc ms K (cells + q.2.2.2.2.1) (slots + q.2.2.2.2.2) q.1 q.2.1 q.2.2.1 q.2.2.2.1
theorem mx_in_ok {j : Int32} {n : Nat} (h : mx_in j n = true) : vp_in j n := of_decide_eq_true (p := ¬ (j < 0 ∨ n ≤ j.toNatClampNeg)) h
theorem mx_fit_ok {ty : FieldType} {v : Value} (r : Nat → Nat) (h : mx_fit ty v = true) : narrow ty (mx_v r v) = mx_v r v ∧ fits ty (mx_v r v) = true := by
  unfold mx_fit at h
  split at h
  · exact ⟨rfl, rfl⟩
  · rename_i x
    have hx : x = 0 ∨ x = 1 := by simpa using h
    rcases hx with rfl | rfl <;> exact ⟨rfl, rfl⟩
  · exact ⟨rfl, rfl⟩
  · exact ⟨rfl, rfl⟩
  · exact ⟨rfl, rfl⟩
  · exact ⟨rfl, rfl⟩
  · cases h
theorem mx_fs_ok (ci : Nat) (r : Nat → Nat) : ∀ j, j < (mx_c ci).2.2 → defaultValue (mx_ty ci j) = vp_V ((mx_fs ci).map (mx_v r)) j := by
  intro j hj
  unfold vp_V mx_fs
  rw [List.getD_eq_getElem?_getD, List.getElem?_map, List.getElem?_map, List.getElem?_range hj]
  show _ = mx_v r (defaultValue (mx_ty ci j))
  cases mx_ty ci j <;> rfl
section MXR
variable {l : Launch} {E : mx_Ev} {M : mx_Me} {R : Room} {mc ms : Nat} {K : Option Value → List va_E → Prop} {cells slots pc : Nat} {ls : List (Nat × Value)} {st : List Value} {hp : List va_E} {q1 : mx_Cf}
theorem mx_l_li {pc1 i : Nat} (rule : ∀ x : Int32, mx_at ls i = some (.int x) → mx_W l E M R mc ms K cells slots pc1 ls (.int x :: st) hp → mx_W l E M R mc ms K cells slots pc ls st hp) (h : mx_a_li pc1 i ls st hp = some q1) (k : mx_G l E M R mc ms K cells slots q1) : mx_W l E M R mc ms K cells slots pc ls st hp := by
  unfold mx_a_li at h
  split at h
  · rename_i x hx
    cases h
    exact rule x hx k
  · cases h
theorem mx_l_la {pc1 i : Nat} (rule : ∀ x : Nat, mx_at ls i = some (.ref x) → mx_W l E M R mc ms K cells slots pc1 ls (.ref x :: st) hp → mx_W l E M R mc ms K cells slots pc ls st hp) (h : mx_a_la pc1 i ls st hp = some q1) (k : mx_G l E M R mc ms K cells slots q1) : mx_W l E M R mc ms K cells slots pc ls st hp := by
  unfold mx_a_la at h
  split at h
  · rename_i x hx
    cases h
    exact rule x hx k
  · cases h
theorem mx_l_si {pc1 i : Nat} (rule : ∀ (x : Int32) (r : List Value), mx_W l E M R mc ms K cells slots pc1 (mx_put ls i (.int x)) r hp → mx_W l E M R mc ms K cells slots pc ls (.int x :: r) hp) (h : mx_a_si pc1 i ls st hp = some q1) (k : mx_G l E M R mc ms K cells slots q1) : mx_W l E M R mc ms K cells slots pc ls st hp := by
  unfold mx_a_si at h
  split at h
  · cases h
    exact rule _ _ k
  · cases h
theorem mx_l_sa {pc1 i : Nat} (rule : ∀ (x : Nat) (r : List Value), mx_W l E M R mc ms K cells slots pc1 (mx_put ls i (.ref x)) r hp → mx_W l E M R mc ms K cells slots pc ls (.ref x :: r) hp) (h : mx_a_sa pc1 i ls st hp = some q1) (k : mx_G l E M R mc ms K cells slots q1) : mx_W l E M R mc ms K cells slots pc ls st hp := by
  unfold mx_a_sa at h
  split at h
  · cases h
    exact rule _ _ k
  · cases h
theorem mx_l_inc {i : Nat} {n : Int} (hd : decode M.2.1 pc = .ok (.iinc i n, 3)) (hn : i < M.2.2.1) (h : mx_a_inc (pc + 3) i n ls st hp = some q1) (k : mx_G l E M R mc ms K cells slots q1) : mx_W l E M R mc ms K cells slots pc ls st hp := by
  unfold mx_a_inc at h
  split at h
  · rename_i x hx
    cases h
    exact mx_iinc hd hx rfl hn k
  · cases h
theorem mx_l_1 {pc1 : Nat} {f : Int32 → Int32} (rule : ∀ (x : Int32) (r : List Value), mx_W l E M R mc ms K cells slots pc1 ls (.int (f x) :: r) hp → mx_W l E M R mc ms K cells slots pc ls (.int x :: r) hp) (h : mx_a_1 f pc1 ls st hp = some q1) (k : mx_G l E M R mc ms K cells slots q1) : mx_W l E M R mc ms K cells slots pc ls st hp := by
  unfold mx_a_1 at h
  split at h
  · cases h
    exact rule _ _ k
  · cases h
theorem mx_l_2 {pc1 : Nat} {f : Int32 → Int32 → Int32} (rule : ∀ (x y : Int32) (r : List Value), mx_W l E M R mc ms K cells slots pc1 ls (.int (f x y) :: r) hp → mx_W l E M R mc ms K cells slots pc ls (.int y :: .int x :: r) hp) (h : mx_a_2 f pc1 ls st hp = some q1) (k : mx_G l E M R mc ms K cells slots q1) : mx_W l E M R mc ms K cells slots pc ls st hp := by
  unfold mx_a_2 at h
  split at h
  · cases h
    exact rule _ _ _ k
  · cases h
theorem mx_l_2n {pc1 : Nat} {f : Int32 → Int32 → Int32} (rule : ∀ (x y : Int32) (r : List Value), ¬ y = 0 → mx_W l E M R mc ms K cells slots pc1 ls (.int (f x y) :: r) hp → mx_W l E M R mc ms K cells slots pc ls (.int y :: .int x :: r) hp) (h : mx_a_2n f pc1 ls st hp = some q1) (k : mx_G l E M R mc ms K cells slots q1) : mx_W l E M R mc ms K cells slots pc ls st hp := by
  unfold mx_a_2n at h
  split at h
  · rename_i y x r
    by_cases hy : y = 0
    · rw [decide_eq_true hy] at h; cases h
    · rw [decide_eq_false hy] at h
      cases h
      exact rule _ _ _ hy k
  · cases h
theorem mx_l_b1 {t : Int32 → Bool} {tgt pc1 : Nat} (rule : ∀ (x : Int32) (r : List Value), (t x = true → mx_W l E M R mc ms K cells slots tgt ls r hp) → (t x = false → mx_W l E M R mc ms K cells slots pc1 ls r hp) → mx_W l E M R mc ms K cells slots pc ls (.int x :: r) hp) (h : mx_a_b1 t tgt pc1 ls st hp = some q1) (k : mx_G l E M R mc ms K cells slots q1) : mx_W l E M R mc ms K cells slots pc ls st hp := by
  unfold mx_a_b1 at h
  split at h
  · cases h
    exact rule _ _ (fun ht => by rw [mx_G, ht] at k; exact k) (fun ht => by rw [mx_G, ht] at k; exact k)
  · cases h
theorem mx_l_b2 {t : Int32 → Int32 → Bool} {tgt pc1 : Nat} (rule : ∀ (x y : Int32) (r : List Value), (t x y = true → mx_W l E M R mc ms K cells slots tgt ls r hp) → (t x y = false → mx_W l E M R mc ms K cells slots pc1 ls r hp) → mx_W l E M R mc ms K cells slots pc ls (.int y :: .int x :: r) hp) (h : mx_a_b2 t tgt pc1 ls st hp = some q1) (k : mx_G l E M R mc ms K cells slots q1) : mx_W l E M R mc ms K cells slots pc ls st hp := by
  unfold mx_a_b2 at h
  split at h
  · cases h
    exact rule _ _ _ (fun ht => by rw [mx_G, ht] at k; exact k) (fun ht => by rw [mx_G, ht] at k; exact k)
  · cases h
theorem mx_l_get {ci k0 index : Nat} {C : String} {T : u_T} {N : Nat} {ty : Nat → FieldType} (hd : decode M.2.1 pc = .ok (.getfield index, 3)) (hc : mx_cl ci C T N ty) (hw : Cond.fieldLink M.1.cls index (T k0).1 (T k0).2.1 (T k0).2.2.1 ∈ mx_tb) (hk : k0 < N) (h : mx_a_get ci k0 (pc + 3) ls st hp = some q1) (k : mx_G l E M R mc ms K cells slots q1) : mx_W l E M R mc ms K cells slots pc ls st hp := by
  unfold mx_a_get at h
  split at h
  · rename_i i r
    split at h
    · rename_i cj fs hi
      by_cases hq : Nat.beq cj ci = true
      · rw [hq] at h
        have e1 : cj = ci := Nat.eq_of_beq_eq_true hq
        subst e1
        dsimp only [cond] at h
        split at h
        · rename_i v hv
          cases h
          exact mx_getfield hd hc hw hk hi hv k
        · cases h
      · rw [Bool.not_eq_true] at hq
        rw [hq] at h; cases h
    · cases h
  · cases h
theorem mx_l_put {ci k0 index : Nat} {C : String} {T : u_T} {N : Nat} (hd : decode M.2.1 pc = .ok (.putfield index, 3)) (hc : mx_cl ci C T N (mx_ty ci)) (hw : Cond.fieldLink M.1.cls index (T k0).1 (T k0).2.1 (T k0).2.2.1 ∈ mx_tb) (hk : k0 < N) (hf : (T k0).2.2.2 = false ∨ ((T k0).2.2.2 = true ∧ M.1.name = "<init>" ∧ (T k0).1 = M.1.cls)) (h : mx_a_put ci k0 (pc + 3) ls st hp = some q1) (k : mx_G l E M R mc ms K cells slots q1) : mx_W l E M R mc ms K cells slots pc ls st hp := by
  unfold mx_a_put at h
  split at h
  · rename_i v i r
    split at h
    · rename_i cj fs hi
      by_cases hq : (Nat.beq cj ci && Nat.blt k0 fs.length && mx_fit (mx_ty ci k0) v) = true
      · rw [hq] at h
        rw [Bool.and_eq_true, Bool.and_eq_true] at hq
        have e1 : cj = ci := Nat.eq_of_beq_eq_true hq.1.1
        subst e1
        cases h
        have hfit := mx_fit_ok E.1 hq.2
        exact mx_putfield hd hc hw hk hf hi (Nat.ble_eq.mp hq.1.2) hfit.1 hfit.2 k
      · rw [Bool.not_eq_true] at hq
        rw [hq] at h; cases h
    · cases h
  · cases h
theorem mx_l_ald (hd : decode M.2.1 pc = .ok (.iaload, 1)) (h : mx_a_ald E.2.2.2.2.2.2 (pc + 1) ls st hp = some q1) (k : mx_G l E M R mc ms K cells slots q1) : mx_W l E M R mc ms K cells slots pc ls st hp := by
  unfold mx_a_ald at h
  split at h
  · rename_i j i r
    by_cases hq : Nat.beq i 1000000 = true
    · rw [hq] at h
      have e1 : i = 1000000 := Nat.eq_of_beq_eq_true hq
      subst e1
      dsimp only [cond] at h
      cases hj : mx_in j E.2.2.2.2.2.2.1 with
      | false => rw [hj] at h; cases h
      | true =>
        rw [hj] at h
        cases h
        exact mx_sld hd (mx_in_ok hj) k
    · rw [Bool.not_eq_true] at hq
      rw [hq] at h
      dsimp only [cond] at h
      split at h
      · rename_i n f hi
        cases hj : mx_in j n with
        | false => rw [hj] at h; cases h
        | true =>
          rw [hj] at h
          cases h
          exact mx_iaload hd hi (mx_in_ok hj) k
      · cases h
  · cases h
theorem mx_l_zld (hd : decode M.2.1 pc = .ok (.baload, 1)) (h : mx_a_zld (pc + 1) ls st hp = some q1) (k : mx_G l E M R mc ms K cells slots q1) : mx_W l E M R mc ms K cells slots pc ls st hp := by
  unfold mx_a_zld at h
  split at h
  · rename_i j i r
    split at h
    · rename_i n f hi
      cases hj : mx_in j n with
      | false => rw [hj] at h; cases h
      | true =>
        rw [hj] at h
        cases h
        exact mx_zaload hd hi (mx_in_ok hj) k
    · cases h
  · cases h
theorem mx_l_ast (hd : decode M.2.1 pc = .ok (.iastore, 1)) (h : mx_a_ast (pc + 1) ls st hp = some q1) (k : mx_G l E M R mc ms K cells slots q1) : mx_W l E M R mc ms K cells slots pc ls st hp := by
  unfold mx_a_ast at h
  split at h
  · rename_i x j i r
    split at h
    · rename_i n f hi
      cases hj : mx_in j n with
      | false => rw [hj] at h; cases h
      | true =>
        rw [hj] at h
        cases h
        exact mx_iastore hd hi (mx_in_ok hj) k
    · cases h
  · cases h
theorem mx_l_zst (hd : decode M.2.1 pc = .ok (.bastore, 1)) (h : mx_a_zst (pc + 1) ls st hp = some q1) (k : mx_G l E M R mc ms K cells slots q1) : mx_W l E M R mc ms K cells slots pc ls st hp := by
  unfold mx_a_zst at h
  split at h
  · rename_i x j i r
    split at h
    · rename_i n f hi
      cases hj : mx_in j n with
      | false => rw [hj] at h; cases h
      | true =>
        rw [hj] at h
        cases h
        exact mx_zastore hd hi (mx_in_ok hj) k
    · cases h
  · cases h
theorem mx_l_len (hd : decode M.2.1 pc = .ok (.arraylength, 1)) (h : mx_a_len E.2.2.2.2.2.2 (pc + 1) ls st hp = some q1) (k : mx_G l E M R mc ms K cells slots q1) : mx_W l E M R mc ms K cells slots pc ls st hp := by
  unfold mx_a_len at h
  split at h
  · rename_i i r
    by_cases hq : Nat.beq i 1000000 = true
    · rw [hq] at h
      have e1 : i = 1000000 := Nat.eq_of_beq_eq_true hq
      subst e1
      cases h
      exact mx_slen hd k
    · rw [Bool.not_eq_true] at hq
      rw [hq] at h
      dsimp only [cond] at h
      split at h
      · rename_i t a hi
        by_cases hj : Nat.blt t 4 = true
        · rw [hj] at h
          cases h
          exact mx_alen (n := 0) hd hi (Nat.ble_eq.mp hj) k
        · rw [Bool.not_eq_true] at hj
          rw [hj] at h; cases h
      · cases h
  · cases h
theorem mx_l_na {t : Nat} (rule : ∀ (n : Int32) (r : List Value), ¬ n < 0 → n.toNatClampNeg ≤ 1000000 → cells + 1 ≤ R.cells → slots + n.toNatClampNeg ≤ R.slots → hp.length < 600000 → mx_W l E M R mc ms K (cells + 1) (slots + n.toNatClampNeg) (pc + 2) ls (.ref hp.length :: r) (hp ++ [.inl (t, n.toNatClampNeg, .inl (fun _ => 0))]) → mx_W l E M R mc ms K cells slots pc ls (.int n :: r) hp) (h : mx_a_na t (pc + 2) ls st hp = some q1) (hC : cells + q1.2.2.2.2.1 ≤ R.cells) (hS : slots + q1.2.2.2.2.2 ≤ R.slots) (k : mx_G l E M R mc ms K cells slots q1) : mx_W l E M R mc ms K cells slots pc ls st hp := by
  unfold mx_a_na at h
  split at h
  · rename_i n r
    by_cases hq : (decide (¬ n < 0) && Nat.ble n.toNatClampNeg 1000000 && Nat.blt hp.length 600000) = true
    · rw [hq] at h
      rw [Bool.and_eq_true, Bool.and_eq_true] at hq
      cases h
      exact rule n r (of_decide_eq_true hq.1.1) (Nat.ble_eq.mp hq.1.2) hC hS (Nat.ble_eq.mp hq.2) k
    · rw [Bool.not_eq_true] at hq
      rw [hq] at h; cases h
  · cases h
theorem mx_l_new {ci index : Nat} (hd : decode M.2.1 pc = .ok (.new index, 3)) (hc : mx_cl ci (mx_c ci).1 (mx_c ci).2.1 (mx_c ci).2.2 (mx_ty ci)) (hw : Cond.classLink M.1.cls index (mx_c ci).1 ∈ mx_tb) (hw2 : Cond.instantiable (mx_c ci).1 (mx_c ci).2.2 ∈ mx_tb) (hw3 : Cond.initialized (mx_c ci).1 ∈ mx_tb) (h : mx_a_new ci (pc + 3) ls st hp = some q1) (hC : cells + q1.2.2.2.2.1 ≤ R.cells) (hS : slots + q1.2.2.2.2.2 ≤ R.slots) (k : mx_G l E M R mc ms K cells slots q1) : mx_W l E M R mc ms K cells slots pc ls st hp := by
  unfold mx_a_new at h
  by_cases hq : Nat.blt hp.length 600000 = true
  · rw [hq] at h
    cases h
    exact mx_new hd hc hw hw2 hw3 (mx_fs_ok ci E.1) hC hS (Nat.ble_eq.mp hq) k
  · rw [Bool.not_eq_true] at hq
    rw [hq] at h; cases h
theorem mx_l_dup (hd : decode M.2.1 pc = .ok (.dup, 1)) (h : mx_a_dup (pc + 1) ls st hp = some q1) (k : mx_G l E M R mc ms K cells slots q1) : mx_W l E M R mc ms K cells slots pc ls st hp := by
  unfold mx_a_dup at h
  split at h
  · rename_i a r
    by_cases hq : Nat.beq a.category 1 = true
    · rw [hq] at h
      cases h
      exact mx_dup hd (Nat.eq_of_beq_eq_true hq) k
    · rw [Bool.not_eq_true] at hq
      rw [hq] at h; cases h
  · cases h
theorem mx_l_pop (hd : decode M.2.1 pc = .ok (.pop, 1)) (h : mx_a_pop (pc + 1) ls st hp = some q1) (k : mx_G l E M R mc ms K cells slots q1) : mx_W l E M R mc ms K cells slots pc ls st hp := by
  unfold mx_a_pop at h
  split at h
  · rename_i a r
    by_cases hq : Nat.beq a.category 1 = true
    · rw [hq] at h
      cases h
      exact mx_pop hd (Nat.eq_of_beq_eq_true hq) k
    · rw [Bool.not_eq_true] at hq
      rw [hq] at h; cases h
  · cases h
theorem mx_l_dx1 (hd : decode M.2.1 pc = .ok (.dup_x1, 1)) (h : mx_a_dx1 (pc + 1) ls st hp = some q1) (k : mx_G l E M R mc ms K cells slots q1) : mx_W l E M R mc ms K cells slots pc ls st hp := by
  unfold mx_a_dx1 at h
  split at h
  · rename_i a b r
    by_cases hq : (Nat.beq a.category 1 && Nat.beq b.category 1) = true
    · rw [hq] at h
      rw [Bool.and_eq_true] at hq
      cases h
      exact mx_dup_x1 hd (Nat.eq_of_beq_eq_true hq.1) (Nat.eq_of_beq_eq_true hq.2) k
    · rw [Bool.not_eq_true] at hq
      rw [hq] at h; cases h
  · cases h
theorem mx_l_d2 (hd : decode M.2.1 pc = .ok (.dup2, 1)) (h : mx_a_d2 (pc + 1) ls st hp = some q1) (k : mx_G l E M R mc ms K cells slots q1) : mx_W l E M R mc ms K cells slots pc ls st hp := by
  unfold mx_a_d2 at h
  split at h
  · rename_i a b r
    by_cases hq : (Nat.beq a.category 1 && Nat.beq b.category 1) = true
    · rw [hq] at h
      rw [Bool.and_eq_true] at hq
      cases h
      exact mx_dup2 hd (Nat.eq_of_beq_eq_true hq.1) (Nat.eq_of_beq_eq_true hq.2) k
    · rw [Bool.not_eq_true] at hq
      rw [hq] at h; cases h
  · cases h
theorem mx_l_dx2 (hd : decode M.2.1 pc = .ok (.dup_x2, 1)) (h : mx_a_dx2 (pc + 1) ls st hp = some q1) (k : mx_G l E M R mc ms K cells slots q1) : mx_W l E M R mc ms K cells slots pc ls st hp := by
  unfold mx_a_dx2 at h
  split at h
  · rename_i a b d r
    by_cases hq : (Nat.beq a.category 1 && Nat.beq b.category 1 && Nat.beq d.category 1) = true
    · rw [hq] at h
      rw [Bool.and_eq_true, Bool.and_eq_true] at hq
      cases h
      exact mx_dup_x2 hd (Nat.eq_of_beq_eq_true hq.1.1) (Nat.eq_of_beq_eq_true hq.1.2) (Nat.eq_of_beq_eq_true hq.2) k
    · rw [Bool.not_eq_true] at hq
      rw [hq] at h; cases h
  · cases h
theorem mx_l_ts {dflt lo hi : Int} {offs : Array Int} {len : Nat} (hd : decode M.2.1 pc = .ok (.tableswitch dflt lo hi offs, len)) (h : mx_a_ts pc dflt lo hi offs ls st hp = some q1) (k : mx_G l E M R mc ms K cells slots q1) : mx_W l E M R mc ms K cells slots pc ls st hp := by
  unfold mx_a_ts at h
  split at h
  · rename_i x r
    by_cases hx : x.toInt < lo ∨ hi < x.toInt
    · rw [decide_eq_true hx] at h
      dsimp only [cond] at h
      by_cases h0 : 0 ≤ (pc : Int) + dflt
      · rw [decide_eq_true h0] at h
        cases h
        exact mx_tableOut hd hx (Int.toNat_of_nonneg h0).symm k
      · rw [decide_eq_false h0] at h; cases h
    · rw [decide_eq_false hx] at h
      dsimp only [cond] at h
      split at h
      · rename_i off ho
        by_cases h0 : 0 ≤ (pc : Int) + off
        · rw [decide_eq_true h0] at h
          cases h
          exact mx_tableIn hd (fun q => hx (Or.inl q)) (fun q => hx (Or.inr q)) ho (Int.toNat_of_nonneg h0).symm k
        · rw [decide_eq_false h0] at h; cases h
      · cases h
  · cases h
end MXR
end
section
/-! ===== a step of the evaluator, what a program's rows must satisfy, and that the machine takes the step ===== -/
def mx_part : Nat → List Cond
  | 0 => k2_sels lw_privs
  | 1 => tables_1_1
  | 2 => tables_1_2
  | 3 => tables_1_3
  | 4 => tables_1_4
  | 5 => tables_1_5
  | 6 => tables_1_6
  | 7 => tables_1_7
  | 8 => tables_1_8
  | _ => []
theorem mx_part_in (p : Nat) (w : Cond) (h : w ∈ mx_part p) : w ∈ lw_tbl := by
  unfold mx_part at h
  unfold lw_tbl tables_1
  simp only [List.mem_append]
  split at h
  all_goals first | (exact absurd h List.not_mem_nil) | skip
  · exact Or.inl h
  · exact Or.inr (Or.inl h)
  · exact Or.inr (Or.inr (Or.inl h))
  · exact Or.inr (Or.inr (Or.inr (Or.inl h)))
  · exact Or.inr (Or.inr (Or.inr (Or.inr (Or.inl h))))
  · exact Or.inr (Or.inr (Or.inr (Or.inr (Or.inr (Or.inl h)))))
  · exact Or.inr (Or.inr (Or.inr (Or.inr (Or.inr (Or.inr (Or.inl h))))))
  · exact Or.inr (Or.inr (Or.inr (Or.inr (Or.inr (Or.inr (Or.inr (Or.inl h)))))))
  · exact Or.inr (Or.inr (Or.inr (Or.inr (Or.inr (Or.inr (Or.inr (Or.inr h)))))))
/-- a word of the tables, by its part and place -/
def mx_has (c : Nat) (w : Cond) : Bool := decide ((mx_part (c / 1000))[c % 1000]? = some w) && goodWord w
theorem mx_has_ok {c : Nat} {w : Cond} (h : mx_has c w = true) : w ∈ mx_tb := by
  unfold mx_has at h
  rw [Bool.and_eq_true] at h
  exact List.mem_filter.mpr ⟨mx_part_in _ _ (List.mem_of_getElem? (of_decide_eq_true h.1)), h.2⟩
/-- where the words on a class's fields, its making, its being initialised stand -/
def mx_lays : List (Nat × Nat × List Nat) := [(1207, 1009, [1221, 1223, 1225, 1227, 1229, 1231, 1233, 1235, 1237]), (1120, 1006, [1156, 1158, 1160, 1162, 1164, 1166, 1168, 1170, 1172, 1174, 1176, 1178, 1180, 1182, 1184]), (1057, 1003, [1064, 1066]), (1188, 1008, [1197, 1199, 1201, 1203]), (1126, 1007, [1134, 1136, 1138]), (2007, 1011, [2019, 2021, 2023, 2025, 2027, 2029, 2031]), (2001, 1010, [2047, 2049, 2051, 2053, 2055, 2057, 2059, 2061, 2063, 2065, 2067, 2069, 2071]), (1086, 1005, [1100, 1102, 1104, 1106, 1108, 1110, 1112, 1114, 1116]), (1031, 1002, [1042, 1044, 1046, 1048, 1050, 1052]), (1070, 1004, [1078, 1080, 1082]), (2075, 1012, [2094, 2096, 2098, 2100, 2102, 2104, 2106, 2108, 2110, 2112, 2114, 2116]), (1023, 1001, [2130, 2132, 2134, 2136, 2138, 2140, 2142, 2144, 2146, 2148, 2150]), (5173, 1013, [6031, 6033, 6035, 6037, 6039, 6041, 6043, 6045, 6047, 6049, 6051, 6053, 6055, 6057, 6059, 6061, 6063, 6065, 6067, 6069, 6071, 6073, 6075, 6077, 6079, 6081, 6083, 6085, 6087, 6089, 6091, 6093, 6095, 6097, 6099, 6101, 6103, 6105, 6107, 6109, 6111, 6113, 6115, 6117, 6119, 6121, 6123, 6125, 6127, 6129, 6131, 6133, 6135, 6137, 6139, 6141, 6143, 6145, 6147, 6149, 6151, 6153, 6155, 6157, 6159, 6161, 6163, 6165, 6167, 6169, 6171, 6173, 6175, 6177, 6179, 6181, 6183, 6185, 6187, 6189, 6191, 6193, 6195, 6197, 6199, 6201, 6203, 6205, 6207, 6209])]
theorem mx_lays_ok : ∀ ci, ci < 13 → (mx_has (mx_lays.getD ci (0, 0, [])).1 (Cond.instantiable (mx_c ci).1 (mx_c ci).2.2) && mx_has (mx_lays.getD ci (0, 0, [])).2.1 (Cond.initialized (mx_c ci).1) && (List.range (mx_c ci).2.2).all (fun k => mx_has ((mx_lays.getD ci (0, 0, [])).2.2.getD k 0) (u_lay (mx_c ci).1 (mx_c ci).2.1 k))) = true := by decide +kernel
theorem mx_inst (ci : Nat) (h : ci < 13) : Cond.instantiable (mx_c ci).1 (mx_c ci).2.2 ∈ mx_tb ∧ Cond.initialized (mx_c ci).1 ∈ mx_tb := by
  have := mx_lays_ok ci h
  rw [Bool.and_eq_true, Bool.and_eq_true] at this
  exact ⟨mx_has_ok this.1.1, mx_has_ok this.1.2⟩
theorem mx_in_tb (ci : Nat) (h : ci < 13) : ∀ w ∈ u_ws (mx_c ci).1 (mx_c ci).2.1 (mx_c ci).2.2, w ∈ mx_tb := by
  have h1 := mx_lays_ok ci h
  rw [Bool.and_eq_true, Bool.and_eq_true] at h1
  intro w hw
  obtain ⟨k, hk, rfl⟩ := List.mem_map.mp hw
  exact mx_has_ok (List.all_eq_true.mp h1.2 k hk)
theorem mx_cls : ∀ ci, ci < 13 → mx_cl ci (mx_c ci).1 (mx_c ci).2.1 (mx_c ci).2.2 (mx_ty ci) := by
  intro ci h
  have h1 := mx_in_tb ci h
  match ci, h, h1 with
  | 0, _, h1 => exact ⟨rfl, h1, tyX0_ok, nmX0⟩
  | 1, _, h1 => exact ⟨rfl, h1, tyX1_ok, nmX1⟩
  | 2, _, h1 => exact ⟨rfl, h1, tyX2_ok, nmX2⟩
  | 3, _, h1 => exact ⟨rfl, h1, tyX3_ok, nmX3⟩
  | 4, _, h1 => exact ⟨rfl, h1, tyX4_ok, nmX4⟩
  | 5, _, h1 => exact ⟨rfl, h1, tyX5_ok, nmX5⟩
  | 6, _, h1 => exact ⟨rfl, h1, tyX6_ok, nmX6⟩
  | 7, _, h1 => exact ⟨rfl, h1, tyX7_ok, nmX7⟩
  | 8, _, h1 => exact ⟨rfl, h1, tyX8_ok, nmX8⟩
  | 9, _, h1 => exact ⟨rfl, h1, tyX9_ok, nmX9⟩
  | 10, _, h1 => exact ⟨rfl, h1, tyX10_ok, nmX10⟩
  | 11, _, h1 => exact ⟨rfl, h1, tyX11_ok, nmX11⟩
  | 12, _, h1 => exact ⟨rfl, h1, tyX12_ok, nmX12⟩
  | n + 13, h, _ => exact absurd h (by omega)
def mx_flk (own : String) (index ci k : Nat) : Cond := Cond.fieldLink own index ((mx_c ci).2.1 k).1 ((mx_c ci).2.1 k).2.1 ((mx_c ci).2.1 k).2.2.1
def mx_step (sc : Nat × (Nat → Int32)) (q : mx_In) (pc : Nat) (ls : List (Nat × Value)) (st : List Value) (hp : List va_E) : Option mx_Cf := match q.1 with
  | .iconst n => some (pc + 1, ls, .int (Int32.ofInt n) :: st, hp, 0, 0)
  | .bipush n => some (pc + 2, ls, .int (Int8.ofInt n).toInt32 :: st, hp, 0, 0)
  | .sipush n => some (pc + 3, ls, .int (Int16.ofInt n).toInt32 :: st, hp, 0, 0)
  | .aconst_null => some (pc + 1, ls, .null :: st, hp, 0, 0)
  | .ldc i => some (pc + 2, ls, .int (Int32.ofNat q.2.2.1) :: st, hp, 0, 0)
  | .iload_n i => mx_a_li (pc + 1) i.val ls st hp
  | .iload i => mx_a_li (pc + 2) i ls st hp
  | .aload_n i => mx_a_la (pc + 1) i.val ls st hp
  | .aload i => mx_a_la (pc + 2) i ls st hp
  | .istore_n i => mx_a_si (pc + 1) i.val ls st hp
  | .istore i => mx_a_si (pc + 2) i ls st hp
  | .astore_n i => mx_a_sa (pc + 1) i.val ls st hp
  | .astore i => mx_a_sa (pc + 2) i ls st hp
  | .iinc i n => mx_a_inc (pc + 3) i n ls st hp
  | .iadd => mx_a_2 (fun x y => x + y) (pc + 1) ls st hp
  | .isub => mx_a_2 (fun x y => x - y) (pc + 1) ls st hp
  | .imul => mx_a_2 (fun x y => x * y) (pc + 1) ls st hp
  | .iand => mx_a_2 (fun x y => x &&& y) (pc + 1) ls st hp
  | .ior => mx_a_2 (fun x y => x ||| y) (pc + 1) ls st hp
  | .ixor => mx_a_2 (fun x y => x ^^^ y) (pc + 1) ls st hp
  | .ishl => mx_a_2 (fun x y => x <<< (y &&& 31)) (pc + 1) ls st hp
  | .ishr => mx_a_2 (fun x y => x >>> (y &&& 31)) (pc + 1) ls st hp
  | .iushr => mx_a_2 (fun x y => (x.toUInt32 >>> (y.toUInt32 &&& Int32.toUInt32 31)).toInt32) (pc + 1) ls st hp
  | .idiv => mx_a_2n (fun x y => x / y) (pc + 1) ls st hp
  | .irem => mx_a_2n (fun x y => x - x / y * y) (pc + 1) ls st hp
  | .ineg => mx_a_1 (fun x => -x) (pc + 1) ls st hp
  | .i2c => mx_a_1 (fun x => (x.toUInt32 % 65536).toInt32) (pc + 1) ls st hp
  | .ifCond .eq off => mx_a_b1 (fun x => decide (x = 0)) q.2.2.1 (pc + 3) ls st hp
  | .if_icmp .eq off => mx_a_b2 (fun x y => decide (x = y)) q.2.2.1 (pc + 3) ls st hp
  | .ifCond .ne off => mx_a_b1 (fun x => decide (x ≠ 0)) q.2.2.1 (pc + 3) ls st hp
  | .if_icmp .ne off => mx_a_b2 (fun x y => decide (x ≠ y)) q.2.2.1 (pc + 3) ls st hp
  | .ifCond .lt off => mx_a_b1 (fun x => decide (x < 0)) q.2.2.1 (pc + 3) ls st hp
  | .if_icmp .lt off => mx_a_b2 (fun x y => decide (x < y)) q.2.2.1 (pc + 3) ls st hp
  | .ifCond .ge off => mx_a_b1 (fun x => decide (0 ≤ x)) q.2.2.1 (pc + 3) ls st hp
  | .if_icmp .ge off => mx_a_b2 (fun x y => decide (y ≤ x)) q.2.2.1 (pc + 3) ls st hp
  | .ifCond .gt off => mx_a_b1 (fun x => decide (0 < x)) q.2.2.1 (pc + 3) ls st hp
  | .if_icmp .gt off => mx_a_b2 (fun x y => decide (y < x)) q.2.2.1 (pc + 3) ls st hp
  | .ifCond .le off => mx_a_b1 (fun x => decide (x ≤ 0)) q.2.2.1 (pc + 3) ls st hp
  | .if_icmp .le off => mx_a_b2 (fun x y => decide (x ≤ y)) q.2.2.1 (pc + 3) ls st hp
  | .goto off => some (q.2.2.1, ls, st, hp, 0, 0)
  | .tableswitch dflt lo hi offs => mx_a_ts pc dflt lo hi offs ls st hp
  | .getfield index => mx_a_get q.2.2.1 q.2.2.2.1 (pc + 3) ls st hp
  | .putfield index => mx_a_put q.2.2.1 q.2.2.2.1 (pc + 3) ls st hp
  | .iaload => mx_a_ald sc (pc + 1) ls st hp
  | .iastore => mx_a_ast (pc + 1) ls st hp
  | .baload => mx_a_zld (pc + 1) ls st hp
  | .bastore => mx_a_zst (pc + 1) ls st hp
  | .arraylength => mx_a_len sc (pc + 1) ls st hp
  | .newarray .int => mx_a_na 0 (pc + 2) ls st hp
  | .newarray .boolean => mx_a_na 1 (pc + 2) ls st hp
  | .new index => mx_a_new q.2.2.1 (pc + 3) ls st hp
  | .dup => mx_a_dup (pc + 1) ls st hp
  | .pop => mx_a_pop (pc + 1) ls st hp
  | .dup_x1 => mx_a_dx1 (pc + 1) ls st hp
  | .dup_x2 => mx_a_dx2 (pc + 1) ls st hp
  | .dup2 => mx_a_d2 (pc + 1) ls st hp
  | _ => none
def mx_ck1 (M : mx_Me) (pc : Nat) (q : mx_In) : Bool := match q.1 with
  | .iconst n => Nat.beq q.2.1 1
  | .bipush n => Nat.beq q.2.1 2
  | .sipush n => Nat.beq q.2.1 3
  | .aconst_null => Nat.beq q.2.1 1
  | .ldc i => Nat.beq q.2.1 2 && mx_has q.2.2.2.2 (Cond.constant M.1.cls i (Int32.ofNat q.2.2.1))
  | .iload_n i => Nat.beq q.2.1 1
  | .iload i => Nat.beq q.2.1 2
  | .aload_n i => Nat.beq q.2.1 1
  | .aload i => Nat.beq q.2.1 2
  | .istore_n i => Nat.beq q.2.1 1 && Nat.blt i.val M.2.2.1
  | .istore i => Nat.beq q.2.1 2 && Nat.blt i M.2.2.1
  | .astore_n i => Nat.beq q.2.1 1 && Nat.blt i.val M.2.2.1
  | .astore i => Nat.beq q.2.1 2 && Nat.blt i M.2.2.1
  | .iinc i n => Nat.beq q.2.1 3 && Nat.blt i M.2.2.1
  | .iadd => Nat.beq q.2.1 1
  | .isub => Nat.beq q.2.1 1
  | .imul => Nat.beq q.2.1 1
  | .iand => Nat.beq q.2.1 1
  | .ior => Nat.beq q.2.1 1
  | .ixor => Nat.beq q.2.1 1
  | .ishl => Nat.beq q.2.1 1
  | .ishr => Nat.beq q.2.1 1
  | .iushr => Nat.beq q.2.1 1
  | .idiv => Nat.beq q.2.1 1
  | .irem => Nat.beq q.2.1 1
  | .ineg => Nat.beq q.2.1 1
  | .i2c => Nat.beq q.2.1 1
  | .ifCond .eq off => Nat.beq q.2.1 3 && decide ((pc : Int) + off = (q.2.2.1 : Int))
  | .if_icmp .eq off => Nat.beq q.2.1 3 && decide ((pc : Int) + off = (q.2.2.1 : Int))
  | .ifCond .ne off => Nat.beq q.2.1 3 && decide ((pc : Int) + off = (q.2.2.1 : Int))
  | .if_icmp .ne off => Nat.beq q.2.1 3 && decide ((pc : Int) + off = (q.2.2.1 : Int))
  | .ifCond .lt off => Nat.beq q.2.1 3 && decide ((pc : Int) + off = (q.2.2.1 : Int))
  | .if_icmp .lt off => Nat.beq q.2.1 3 && decide ((pc : Int) + off = (q.2.2.1 : Int))
  | .ifCond .ge off => Nat.beq q.2.1 3 && decide ((pc : Int) + off = (q.2.2.1 : Int))
  | .if_icmp .ge off => Nat.beq q.2.1 3 && decide ((pc : Int) + off = (q.2.2.1 : Int))
  | .ifCond .gt off => Nat.beq q.2.1 3 && decide ((pc : Int) + off = (q.2.2.1 : Int))
  | .if_icmp .gt off => Nat.beq q.2.1 3 && decide ((pc : Int) + off = (q.2.2.1 : Int))
  | .ifCond .le off => Nat.beq q.2.1 3 && decide ((pc : Int) + off = (q.2.2.1 : Int))
  | .if_icmp .le off => Nat.beq q.2.1 3 && decide ((pc : Int) + off = (q.2.2.1 : Int))
  | .goto off => Nat.beq q.2.1 3 && decide ((pc : Int) + off = (q.2.2.1 : Int))
  | .tableswitch dflt lo hi offs => true
  | .getfield index => Nat.beq q.2.1 3 && Nat.blt q.2.2.1 13 && Nat.blt q.2.2.2.1 (mx_c q.2.2.1).2.2 && mx_has q.2.2.2.2 (mx_flk M.1.cls index q.2.2.1 q.2.2.2.1)
  | .putfield index => Nat.beq q.2.1 3 && Nat.blt q.2.2.1 13 && Nat.blt q.2.2.2.1 (mx_c q.2.2.1).2.2 && mx_has q.2.2.2.2 (mx_flk M.1.cls index q.2.2.1 q.2.2.2.1) && decide (((mx_c q.2.2.1).2.1 q.2.2.2.1).2.2.2 = false ∨ (((mx_c q.2.2.1).2.1 q.2.2.2.1).2.2.2 = true ∧ M.1.name = "<init>" ∧ ((mx_c q.2.2.1).2.1 q.2.2.2.1).1 = M.1.cls))
  | .iaload => Nat.beq q.2.1 1
  | .iastore => Nat.beq q.2.1 1
  | .baload => Nat.beq q.2.1 1
  | .bastore => Nat.beq q.2.1 1
  | .arraylength => Nat.beq q.2.1 1
  | .newarray .int => Nat.beq q.2.1 2 && mx_has q.2.2.2.2 (Cond.arrayClass .int)
  | .newarray .boolean => Nat.beq q.2.1 2 && mx_has q.2.2.2.2 (Cond.arrayClass .boolean)
  | .new index => Nat.beq q.2.1 3 && Nat.blt q.2.2.1 13 && mx_has q.2.2.2.2 (Cond.classLink M.1.cls index (mx_c q.2.2.1).1)
  | .dup => Nat.beq q.2.1 1
  | .pop => Nat.beq q.2.1 1
  | .dup_x1 => Nat.beq q.2.1 1
  | .dup_x2 => Nat.beq q.2.1 1
  | .dup2 => Nat.beq q.2.1 1
  | _ => true
theorem mx_step_ok {l : Launch} {E : mx_Ev} {M : mx_Me} {R : Room} {mc ms : Nat} {K : Option Value → List va_E → Prop} {cells slots pc : Nat} {ls : List (Nat × Value)} {st : List Value} {hp : List va_E} {q1 : mx_Cf} {q : mx_In} {sc : Nat × (Nat → Int32)} (hsc : sc = E.2.2.2.2.2.2) (hd : decode M.2.1 pc = .ok (q.1, q.2.1)) (hck : mx_ck1 M pc q = true) (h : mx_step sc q pc ls st hp = some q1) (hC : cells + q1.2.2.2.2.1 ≤ R.cells) (hS : slots + q1.2.2.2.2.2 ≤ R.slots) (k : mx_G l E M R mc ms K cells slots q1) : mx_W l E M R mc ms K cells slots pc ls st hp := by
  have hl1 : ∀ {i : Instr} {n : Nat}, decode M.2.1 pc = .ok (i, q.2.1) → Nat.beq q.2.1 n = true → decode M.2.1 pc = .ok (i, n) := by
    intro i n h1 h2
    rw [h1, Nat.eq_of_beq_eq_true h2]
  obtain ⟨ins, q⟩ := q
  dsimp only at hd hl1
  unfold mx_step at h
  unfold mx_ck1 at hck
  dsimp only at h hck
  split at h
  · cases h; exact mx_iconst (hl1 hd hck) rfl k
  · cases h; exact mx_bipush (hl1 hd hck) rfl k
  · cases h; exact mx_sipush (hl1 hd hck) rfl k
  · cases h; exact mx_null (hl1 hd hck) k
  · rw [Bool.and_eq_true] at hck; cases h; exact mx_ldc (hl1 hd hck.1) (mx_has_ok hck.2) k
  · exact mx_l_li (fun x hx kk => mx_iload_n (hl1 hd hck) hx kk) h k
  · exact mx_l_li (fun x hx kk => mx_iload (hl1 hd hck) hx kk) h k
  · exact mx_l_la (fun x hx kk => mx_aload_n (hl1 hd hck) hx kk) h k
  · exact mx_l_la (fun x hx kk => mx_aload (hl1 hd hck) hx kk) h k
  · rw [Bool.and_eq_true] at hck; exact mx_l_si (fun x r kk => mx_istore_n (hl1 hd hck.1) (Nat.ble_eq.mp hck.2) kk) h k
  · rw [Bool.and_eq_true] at hck; exact mx_l_si (fun x r kk => mx_istore (hl1 hd hck.1) (Nat.ble_eq.mp hck.2) kk) h k
  · rw [Bool.and_eq_true] at hck; exact mx_l_sa (fun x r kk => mx_astore_n (hl1 hd hck.1) (Nat.ble_eq.mp hck.2) kk) h k
  · rw [Bool.and_eq_true] at hck; exact mx_l_sa (fun x r kk => mx_astore (hl1 hd hck.1) (Nat.ble_eq.mp hck.2) kk) h k
  · rw [Bool.and_eq_true] at hck; exact mx_l_inc (hl1 hd hck.1) (Nat.ble_eq.mp hck.2) h k
  · exact mx_l_2 (fun x y r kk => mx_iadd (hl1 hd hck) kk) h k
  · exact mx_l_2 (fun x y r kk => mx_isub (hl1 hd hck) kk) h k
  · exact mx_l_2 (fun x y r kk => mx_imul (hl1 hd hck) kk) h k
  · exact mx_l_2 (fun x y r kk => mx_iand (hl1 hd hck) kk) h k
  · exact mx_l_2 (fun x y r kk => mx_ior (hl1 hd hck) kk) h k
  · exact mx_l_2 (fun x y r kk => mx_ixor (hl1 hd hck) kk) h k
  · exact mx_l_2 (fun x y r kk => mx_ishl (hl1 hd hck) kk) h k
  · exact mx_l_2 (fun x y r kk => mx_ishr (hl1 hd hck) kk) h k
  · exact mx_l_2 (fun x y r kk => mx_iushr (hl1 hd hck) kk) h k
  · exact mx_l_2n (fun x y r hy kk => mx_idiv (hl1 hd hck) hy kk) h k
  · exact mx_l_2n (fun x y r hy kk => mx_irem (hl1 hd hck) hy kk) h k
  · exact mx_l_1 (fun x r kk => mx_ineg (hl1 hd hck) kk) h k
  · exact mx_l_1 (fun x r kk => mx_i2c (hl1 hd hck) kk) h k
  · rw [Bool.and_eq_true] at hck; exact mx_l_b1 (fun x r ht hf => mx_if_eq (hl1 hd hck.1) (of_decide_eq_true hck.2) (fun hp2 => ht (decide_eq_true hp2)) (fun hp2 => hf (decide_eq_false hp2))) h k
  · rw [Bool.and_eq_true] at hck; exact mx_l_b2 (fun x y r ht hf => mx_icmp_eq (hl1 hd hck.1) (of_decide_eq_true hck.2) (fun hp2 => ht (decide_eq_true hp2)) (fun hp2 => hf (decide_eq_false hp2))) h k
  · rw [Bool.and_eq_true] at hck; exact mx_l_b1 (fun x r ht hf => mx_if_ne (hl1 hd hck.1) (of_decide_eq_true hck.2) (fun hp2 => ht (decide_eq_true hp2)) (fun hp2 => hf (decide_eq_false (fun hn => hn hp2)))) h k
  · rw [Bool.and_eq_true] at hck; exact mx_l_b2 (fun x y r ht hf => mx_icmp_ne (hl1 hd hck.1) (of_decide_eq_true hck.2) (fun hp2 => ht (decide_eq_true hp2)) (fun hp2 => hf (decide_eq_false (fun hn => hn hp2)))) h k
  · rw [Bool.and_eq_true] at hck; exact mx_l_b1 (fun x r ht hf => mx_if_lt (hl1 hd hck.1) (of_decide_eq_true hck.2) (fun hp2 => ht (decide_eq_true hp2)) (fun hp2 => hf (decide_eq_false hp2))) h k
  · rw [Bool.and_eq_true] at hck; exact mx_l_b2 (fun x y r ht hf => mx_icmp_lt (hl1 hd hck.1) (of_decide_eq_true hck.2) (fun hp2 => ht (decide_eq_true hp2)) (fun hp2 => hf (decide_eq_false hp2))) h k
  · rw [Bool.and_eq_true] at hck; exact mx_l_b1 (fun x r ht hf => mx_if_ge (hl1 hd hck.1) (of_decide_eq_true hck.2) (fun hp2 => ht (decide_eq_true hp2)) (fun hp2 => hf (decide_eq_false hp2))) h k
  · rw [Bool.and_eq_true] at hck; exact mx_l_b2 (fun x y r ht hf => mx_icmp_ge (hl1 hd hck.1) (of_decide_eq_true hck.2) (fun hp2 => ht (decide_eq_true hp2)) (fun hp2 => hf (decide_eq_false hp2))) h k
  · rw [Bool.and_eq_true] at hck; exact mx_l_b1 (fun x r ht hf => mx_if_gt (hl1 hd hck.1) (of_decide_eq_true hck.2) (fun hp2 => ht (decide_eq_true hp2)) (fun hp2 => hf (decide_eq_false hp2))) h k
  · rw [Bool.and_eq_true] at hck; exact mx_l_b2 (fun x y r ht hf => mx_icmp_gt (hl1 hd hck.1) (of_decide_eq_true hck.2) (fun hp2 => ht (decide_eq_true hp2)) (fun hp2 => hf (decide_eq_false hp2))) h k
  · rw [Bool.and_eq_true] at hck; exact mx_l_b1 (fun x r ht hf => mx_if_le (hl1 hd hck.1) (of_decide_eq_true hck.2) (fun hp2 => ht (decide_eq_true hp2)) (fun hp2 => hf (decide_eq_false hp2))) h k
  · rw [Bool.and_eq_true] at hck; exact mx_l_b2 (fun x y r ht hf => mx_icmp_le (hl1 hd hck.1) (of_decide_eq_true hck.2) (fun hp2 => ht (decide_eq_true hp2)) (fun hp2 => hf (decide_eq_false hp2))) h k
  · rw [Bool.and_eq_true] at hck; cases h; exact mx_goto (hl1 hd hck.1) (of_decide_eq_true hck.2) k
  · exact mx_l_ts hd h k
  · simp only [Bool.and_eq_true] at hck; exact mx_l_get (hl1 hd hck.1.1.1) (mx_cls _ (Nat.ble_eq.mp hck.1.1.2)) (mx_has_ok hck.2) (Nat.ble_eq.mp hck.1.2) h k
  · simp only [Bool.and_eq_true] at hck; exact mx_l_put (hl1 hd hck.1.1.1.1) (mx_cls _ (Nat.ble_eq.mp hck.1.1.1.2)) (mx_has_ok hck.1.2) (Nat.ble_eq.mp hck.1.1.2) (of_decide_eq_true hck.2) h k
  · subst hsc; exact mx_l_ald (hl1 hd hck) h k
  · exact mx_l_ast (hl1 hd hck) h k
  · exact mx_l_zld (hl1 hd hck) h k
  · exact mx_l_zst (hl1 hd hck) h k
  · subst hsc; exact mx_l_len (hl1 hd hck) h k
  · rw [Bool.and_eq_true] at hck; exact mx_l_na (fun n r h1 h2 h3 h4 h5 kk => mx_newi (hl1 hd hck.1) (mx_has_ok hck.2) h1 rfl h2 h3 h4 h5 kk) h hC hS k
  · rw [Bool.and_eq_true] at hck; exact mx_l_na (fun n r h1 h2 h3 h4 h5 kk => mx_newz (hl1 hd hck.1) (mx_has_ok hck.2) h1 rfl h2 h3 h4 h5 kk) h hC hS k
  · simp only [Bool.and_eq_true] at hck; exact mx_l_new (hl1 hd hck.1.1) (mx_cls _ (Nat.ble_eq.mp hck.1.2)) (mx_has_ok hck.2) (mx_inst _ (Nat.ble_eq.mp hck.1.2)).1 (mx_inst _ (Nat.ble_eq.mp hck.1.2)).2 h hC hS k
  · exact mx_l_dup (hl1 hd hck) h k
  · exact mx_l_pop (hl1 hd hck) h k
  · exact mx_l_dx1 (hl1 hd hck) h k
  · exact mx_l_dx2 (hl1 hd hck) h k
  · exact mx_l_d2 (hl1 hd hck) h k
  · cases h
end
section
/-! ===== System.arraycopy between int arrays ===== -/
theorem mx_nfw : nativeFrameWords "java/lang/System" "arraycopy" 5 ≤ 21 := by decide +kernel
section MXY
variable {l : Launch} {E : mx_Ev} {M : mx_Me} {R : Room} {mc ms : Nat} {K : Option Value → List va_E → Prop} {cells slots pc : Nat} {ls : List (Nat × Value)} {st : List Value} {hp : List va_E}
theorem mx_copyi {index i0 i1 n0 n1 : Nat} {f g : Nat → Int32} {sp dp n : Int32} {rest : List Value} (hd : decode M.2.1 pc = .ok (.invokestatic index, 3)) (hw : Cond.methodLink M.1.cls index arraycopyName ∈ mx_tb ∧ Cond.native arraycopyName ∈ mx_tb ∧ Cond.static arraycopyName ∈ mx_tb ∧ Cond.initialized "java/lang/System" ∈ mx_tb) (hi0 : hp[i0]? = some (.inl (0, n0, .inl f))) (hi1 : hp[i1]? = some (.inl (0, n1, .inl g))) (h1 : ¬ sp < 0) (h2 : ¬ dp < 0) (h3 : ¬ n < 0) (h4 : sp.toNatClampNeg + n.toNatClampNeg ≤ n0) (h5 : dp.toNatClampNeg + n.toNatClampNeg ≤ n1) (hs : (rest.map fun v => v.category).sum ≤ 8) (hR : 1 ≤ R.frames ∧ 40 ≤ R.locals)
    (kk : mx_W l E M R mc ms K cells slots (pc + 3) ls rest (hp.set i1 (.inl (0, n1, .inl (va_cpy f g sp.toNatClampNeg dp.toNatClampNeg n.toNatClampNeg))))) : mx_W l E M R mc ms K cells slots pc ls (.int n :: .int dp :: .ref i1 :: .int sp :: .ref i0 :: rest) hp :=
  fun p e s m args below meth c H locs lv C0 P S L => by
    have hD := P.D C0.1
    have ha0 := mx_w_at (r := E.1) (cA := E.2.1) hi0
    have ha1 := mx_w_at (r := E.1) (cA := E.2.1) hi1
    have nn : ∀ z : Int32, ¬ z < 0 → z.toInt = (z.toNatClampNeg : Int) := by
      intro z hz
      have hz0 : (0 : Int) ≤ z.toInt := by
        have := Int32.not_lt.mp hz
        simpa using Int32.le_iff_toInt_le.mp this
      show z.toInt = ((z.toInt.toNat : Nat) : Int)
      omega
    intro T hT X
    have hc0 : H[E.1 i0]? = some (vp_cell (E.2.1 0) (n0, .inl f)) := P.1 i0 _ ha0
    have hc1 : H[E.1 i1]? = some (vp_cell (E.2.1 0) (n1, .inl g)) := P.1 i1 _ ha1
    obtain ⟨-, k0, hk0, cm0, hkk0⟩ := (C0.kn.2 0 _ rfl).1 n0 (fun j => .int (f j))
    obtain ⟨-, k1, hk1, cm1, hkk1⟩ := (C0.kn.2 0 _ rfl).1 n1 (fun j => .int (g j))
    obtain ⟨vm', X', step⟩ := X.arraycopy (own := M.1.cls) C0.2.1 C0.own (C0.ts _ hw.1) (C0.ts _ hw.2.1) (C0.ts _ hw.2.2.1) (C0.ts _ hw.2.2.2) (src := E.1 i0) (dst := E.1 i1) (cs := vp_cell (E.2.1 0) (n0, .inl f)) (cd := vp_cell (E.2.1 0) (n1, .inl g)) (srcPos := sp) (destPos := dp) (n := n) (by rw [hT]; exact hc0) (by rw [hT]; exact hc1)
      (fun _ h => by cases h) (fun _ h => by cases h) (fun h => by cases h) (fun h => by cases h) hk0 hk1 hkk0 hkk1 (by simp [refKind]) h1 h2 h3
      (by rw [nn sp h1, nn n h3]; show ¬ _ > ((arrV (E.2.1 0) n0 (fun j => .int (f j))).slots.size : Int); rw [arrV_size]; omega)
      (by rw [nn dp h2, nn n h3]; show ¬ _ > ((arrV (E.2.1 0) n1 (fun j => .int (g j))).slots.size : Int); rw [arrV_size]; omega)
      (fun vm₁ _ i hi => by
        have e : (vp_cell (E.2.1 0) (n0, .inl f)).slots.getD (sp.toNatClampNeg + i) .null = .int (f (sp.toNatClampNeg + i)) := by
          show (arrV (E.2.1 0) n0 (fun j => .int (f j))).slots.getD _ _ = _
          rw [Array.getD_eq_getD_getElem?, arrV_read _ _ (by omega)]
          rfl
        refine ⟨?_, ?_⟩
        · rw [e]; rfl
        · rw [e]; exact trivial)
      (g := F0 m pc lv (.int n :: .int dp :: .ref (E.1 i1) :: .int sp :: .ref (E.1 i0) :: rest.map (mx_v E.1))) rfl (L.1.trans C0.2.2.2.1.symm) (rest := rest.map (mx_v E.1)) rfl (by rw [C0.2.2.1]; exact hd) hR.1 (by
        have h8 := mx_sum (E := E) hs
        have hw2 := mx_nfw
        show 2 * 0 + _ + _ ≤ _
        omega)
    have e1 : copied (vp_cell (E.2.1 0) (n0, .inl f)) (vp_cell (E.2.1 0) (n1, .inl g)) sp dp n = vp_cell (E.2.1 0) (n1, .inl (va_cpy f g sp.toNatClampNeg dp.toNatClampNeg n.toNatClampNeg)) := va_copied (fun z => .int z) (E.2.1 0) (E.2.1 0) f g h4
    rw [e1] at X' step
    have hl : E.1 i1 < H.size := (Array.getElem?_eq_some_iff.mp hc1).1
    have hheap : ((T.setVm vm').setCell (E.1 i1) (vp_cell (E.2.1 0) (n1, .inl (va_cpy f g sp.toNatClampNeg dp.toNatClampNeg n.toNatClampNeg)))).heap = H.setIfInBounds (E.1 i1) (vp_cell (E.2.1 0) (n1, .inl (va_cpy f g sp.toNatClampNeg dp.toNatClampNeg n.toNatClampNeg))) := by rw [← hT]; rfl
    have oq : ∀ q : Nat, q ≠ E.1 i1 → (H.setIfInBounds (E.1 i1) (vp_cell (E.2.1 0) (n1, .inl (va_cpy f g sp.toNatClampNeg dp.toNatClampNeg n.toNatClampNeg))))[q]? = H[q]? := fun q hq => by simp [Array.getElem?_setIfInBounds, Ne.symm hq]
    have hP := P.1.set (e := mx_e E.1 E.2.1 (.inl (0, n1, .inl (va_cpy f g sp.toNatClampNeg dp.toNatClampNeg n.toNatClampNeg)))) hD ha1 (show (H.setIfInBounds (E.1 i1) _)[E.1 i1]? = some _ by simp [Array.getElem?_setIfInBounds, hl]) oq
    rw [mx_w_set] at hP
    obtain ⟨t, a1, b1⟩ := kk p e s m args below meth c _ _ lv C0 ⟨hP, by simp; exact P.2.1, by rw [List.length_set]; exact P.2.2⟩ ⟨by simp; exact S.1, fun q g1 g2 => by
        rw [oq q (fun e => g2 (by rw [e]; exact hD.2 i1 _ ha1))]
        exact S.2.1 q g1 g2, fun q hq => by
        rcases List.mem_append.mp hq with h | h
        · exact S.2.2 q h
        · obtain ⟨z, -, hz⟩ := List.mem_map.mp h
          rw [← hz]
          exact hD.2 i1 _ ha1⟩ L _ hheap X'
    exact ⟨t, step t a1, b1⟩
end MXY
def mx_a_cpy (pc : Nat) (ls : List (Nat × Value)) (st : List Value) (hp : List va_E) : Option mx_Cf := match st with
  | .int n :: .int dp :: .ref i1 :: .int sp :: .ref i0 :: r => match hp[i0]? with
    | some (.inl (0, n0, .inl f)) => match hp[i1]? with
      | some (.inl (0, n1, .inl g)) => cond (decide (¬ sp < 0) && decide (¬ dp < 0) && decide (¬ n < 0) && Nat.ble (sp.toNatClampNeg + n.toNatClampNeg) n0 && Nat.ble (dp.toNatClampNeg + n.toNatClampNeg) n1 && Nat.ble (mx_cs r) 8) (some (pc, ls, r, hp.set i1 (.inl (0, n1, .inl (va_cpy f g sp.toNatClampNeg dp.toNatClampNeg n.toNatClampNeg))), 0, 0)) none
      | _ => none
    | _ => none
  | _ => none
theorem mx_l_cpy {l : Launch} {E : mx_Ev} {M : mx_Me} {R : Room} {mc ms : Nat} {K : Option Value → List va_E → Prop} {cells slots pc : Nat} {ls : List (Nat × Value)} {st : List Value} {hp : List va_E} {q1 : mx_Cf} {index : Nat} (hd : decode M.2.1 pc = .ok (.invokestatic index, 3)) (hw : Cond.methodLink M.1.cls index arraycopyName ∈ mx_tb ∧ Cond.native arraycopyName ∈ mx_tb ∧ Cond.static arraycopyName ∈ mx_tb ∧ Cond.initialized "java/lang/System" ∈ mx_tb) (hR : 1 ≤ R.frames ∧ 40 ≤ R.locals) (h : mx_a_cpy (pc + 3) ls st hp = some q1) (k : mx_G l E M R mc ms K cells slots q1) : mx_W l E M R mc ms K cells slots pc ls st hp := by
  unfold mx_a_cpy at h
  split at h
  · rename_i n dp i1 sp i0 r
    split at h
    · rename_i n0 f hi0
      split at h
      · rename_i n1 g hi1
        by_cases hq : (decide (¬ sp < 0) && decide (¬ dp < 0) && decide (¬ n < 0) && Nat.ble (sp.toNatClampNeg + n.toNatClampNeg) n0 && Nat.ble (dp.toNatClampNeg + n.toNatClampNeg) n1 && Nat.ble (mx_cs r) 8) = true
        · rw [hq] at h
          simp only [Bool.and_eq_true] at hq
          obtain ⟨⟨⟨⟨⟨q1', q2⟩, q3⟩, q4⟩, q5⟩, q6⟩ := hq
          cases h
          exact mx_copyi hd hw hi0 hi1 (of_decide_eq_true q1') (of_decide_eq_true q2) (of_decide_eq_true q3) (Nat.ble_eq.mp q4) (Nat.ble_eq.mp q5) (Nat.ble_eq.mp q6) hR k
        · rw [Bool.not_eq_true] at hq
          rw [hq] at h; cases h
      · cases h
    · cases h
  · cases h
end
section
/-! ===== THE EVALUATOR'S RUN, with calls; the machine does what it does ===== -/
/-- a program: of each method what it is, its parameters, where its words stand (code, initialised, instance or static, selects), its rows -/
abbrev mx_En : Type := mx_Me × Nat × (Nat × Nat × Nat × Nat) × List (Nat × mx_In)
def mx_rok (t : Option FieldType) (v : Int32) : Bool := match t with
  | some .int => true
  | some .boolean => v == 0 || v == 1
  | _ => false
def mx_rv (t : Option FieldType) : Bool := match t with
  | none => true
  | _ => false
def mx_isc (hp : List va_E) (i ci : Nat) : Bool := match hp[i]? with
  | some (.inr (cj, _)) => Nat.beq cj ci
  | _ => false
def mx_run (sc : Nat × (Nat → Int32)) (pg : List mx_En) : Nat → Nat → Nat → Nat → List (Nat × Value) → List Value → List va_E → Nat → Nat → Option (Option Value × List va_E × Nat × Nat)
  | 0, _, _, _, _, _, _, _, _ => none
  | n + 1, d, mi, pc, ls, st, hp, c, s => match pg[mi]? with
    | none => none
    | some e => match mx_lk e.2.2.2 pc with
      | none => none
      | some q => match q.1 with
        | .ireturn => match st with
          | [.int v] => cond (mx_rok e.1.2.2.2 v) (some (some (.int v), hp, c, s)) none
          | _ => none
        | .return_ => match st with
          | [] => cond (mx_rv e.1.2.2.2) (some (none, hp, c, s)) none
          | _ => none
        | .invokevirtual _ => match d with
          | 0 => none
          | d1 + 1 => match pg[q.2.2.1]? with
            | none => none
            | some e1 => match st.drop e1.2.1 with
              | .ref i :: rest => cond (mx_isc hp i q.2.2.2.1 && Nat.ble (mx_cs rest) 8 && Nat.ble (lg_sl (.ref i :: (st.take e1.2.1).reverse)).length e1.1.2.2.1 && Nat.beq (st.take e1.2.1).length e1.2.1)
                (match mx_run sc pg n d1 q.2.2.1 0 (lv_args 0 (.ref i :: (st.take e1.2.1).reverse)) [] hp 0 0 with
                | none => none
                | some r => mx_run sc pg n (d1 + 1) mi (pc + 3) ls (r.1.toList ++ rest) r.2.1 (c + r.2.2.1) (s + r.2.2.2)) none
              | _ => none
        | .invokespecial _ => match d with
          | 0 => none
          | d1 + 1 => cond (Nat.beq q.2.2.2.1 1) (match st with
            | .ref _ :: rest => cond (Nat.ble (mx_cs rest) 8) (mx_run sc pg n (d1 + 1) mi (pc + 3) ls rest hp c s) none
            | _ => none) (match pg[q.2.2.1]? with
            | none => none
            | some e1 => match st.drop e1.2.1 with
              | .ref i :: rest => cond (Nat.ble (mx_cs rest) 8 && Nat.ble (lg_sl (.ref i :: (st.take e1.2.1).reverse)).length e1.1.2.2.1 && Nat.beq (st.take e1.2.1).length e1.2.1)
                (match mx_run sc pg n d1 q.2.2.1 0 (lv_args 0 (.ref i :: (st.take e1.2.1).reverse)) [] hp 0 0 with
                | none => none
                | some r => mx_run sc pg n (d1 + 1) mi (pc + 3) ls (r.1.toList ++ rest) r.2.1 (c + r.2.2.1) (s + r.2.2.2)) none
              | _ => none)
        | .invokestatic _ => match d with
          | 0 => none
          | d1 + 1 => cond (Nat.beq q.2.2.2.1 7) (match mx_a_cpy (pc + 3) ls st hp with
            | none => none
            | some f => mx_run sc pg n (d1 + 1) mi f.1 f.2.1 f.2.2.1 f.2.2.2.1 (c + f.2.2.2.2.1) (s + f.2.2.2.2.2)) (match pg[q.2.2.1]? with
            | none => none
            | some e1 => cond (Nat.ble (mx_cs (st.drop e1.2.1)) 8 && Nat.ble (lg_sl (st.take e1.2.1).reverse).length e1.1.2.2.1 && Nat.beq (st.take e1.2.1).length e1.2.1)
                (match mx_run sc pg n d1 q.2.2.1 0 (lv_args 0 (st.take e1.2.1).reverse) [] hp 0 0 with
                | none => none
                | some r => mx_run sc pg n (d1 + 1) mi (pc + 3) ls (r.1.toList ++ st.drop e1.2.1) r.2.1 (c + r.2.2.1) (s + r.2.2.2)) none)
        | _ => match mx_step sc q pc ls st hp with
          | none => none
          | some f => mx_run sc pg n d mi f.1 f.2.1 f.2.2.1 f.2.2.2.1 (c + f.2.2.2.2.1) (s + f.2.2.2.2.2)
/-- what is checked of a method, and of a row -/
def mx_ckm (e : mx_En) : Bool := mx_has e.2.2.1.1 (.code e.1.1 e.1.2.1 e.1.2.2.1 e.1.2.2.2) && mx_has e.2.2.1.2.1 (.initialized e.1.1.cls) && plainName e.1.1.cls && decide (e.1.1.cls ≠ "java/lang/invoke/MethodHandle" ∧ e.1.1.cls ≠ "java/lang/invoke/VarHandle" ∧ (parseMethodDescriptor e.1.1.desc).map (fun d => d.parameters.length) = some e.2.1) && Nat.ble e.1.2.2.1 21
/-- where 'java/lang/System is initialised' stands -/
def mx_sysi : Nat := 1015
def mx_ck2 (pg : List mx_En) (M : mx_Me) (pc : Nat) (q : mx_In) : Bool := match q.1 with
  | .ireturn => Nat.beq q.2.1 1
  | .return_ => Nat.beq q.2.1 1
  | .invokevirtual index => match pg[q.2.2.1]? with
    | none => false
    | some e1 => Nat.beq q.2.1 3 && mx_has q.2.2.2.2 (.methodLink M.1.cls index e1.1.1) && mx_has e1.2.2.1.2.2.1 (.instanceMethod e1.1.1) && Nat.blt q.2.2.2.1 13 && mx_has e1.2.2.1.2.2.2 (.selects (mx_c q.2.2.2.1).1 e1.1.1 e1.1.1) && Nat.blt (q.2.2.1 + 1) pg.length
  | .invokespecial index => cond (Nat.beq q.2.2.2.1 1) (Nat.beq q.2.1 3 && mx_has q.2.2.2.2 (.methodLink M.1.cls index objectInit)) (match pg[q.2.2.1]? with
    | none => false
    | some e1 => Nat.beq q.2.1 3 && mx_has q.2.2.2.2 (.methodLink M.1.cls index e1.1.1) && mx_has e1.2.2.1.2.2.1 (.instanceMethod e1.1.1) && decide (e1.1.1.name = "<init>") && mx_rv e1.1.2.2.2 && Nat.blt (q.2.2.1 + 1) pg.length)
  | .invokestatic index => cond (Nat.beq q.2.2.2.1 7) (Nat.beq q.2.1 3 && mx_has q.2.2.2.2 (.methodLink M.1.cls index arraycopyName) && mx_has q.2.2.1 (.native arraycopyName) && mx_has (q.2.2.1 - 1) (.static arraycopyName) && mx_has mx_sysi (.initialized "java/lang/System")) (match pg[q.2.2.1]? with
    | none => false
    | some e1 => Nat.beq q.2.1 3 && mx_has q.2.2.2.2 (.methodLink M.1.cls index e1.1.1) && mx_has e1.2.2.1.2.2.1 (.static e1.1.1) && Nat.blt (q.2.2.1 + 1) pg.length)
  | _ => mx_ck1 M pc q
/-- the last method is the law: nobody calls it -/
def mx_pok (pg : List mx_En) : Prop := (∀ (k : Nat) (e : mx_En), pg[k]? = some e → (k + 1 < pg.length → mx_ckm e = true) ∧ ∀ x ∈ e.2.2.2, decode e.1.2.1 x.1 = .ok (x.2.1, x.2.2.1) ∧ mx_ck2 pg e.1 x.1 x.2 = true) ∧ (Cond.instanceMethod objectInit ∈ mx_tb ∧ Cond.code objectInit ⟨#[0xb1]⟩ 1 none ∈ mx_tb)
theorem mx_ckm_ok {e : mx_En} (h : mx_ckm e = true) : mx_me e.1 e.2.1 ∧ e.1.2.2.1 ≤ 21 := by
  unfold mx_ckm at h
  simp only [Bool.and_eq_true] at h
  exact ⟨⟨mx_has_ok h.1.1.1.1, mx_has_ok h.1.1.1.2, h.1.1.2, of_decide_eq_true h.1.2⟩, Nat.ble_eq.mp h.2⟩
theorem mx_split {st : List Value} {n : Nat} {i : Nat} {rest : List Value} (h : st.drop n = .ref i :: rest) : st = ((st.take n).reverse).reverse ++ .ref i :: rest := by
  rw [List.reverse_reverse, ← h, List.take_append_drop]
theorem mx_rv_ok {t : Option FieldType} (h : mx_rv t = true) : t = none := by
  unfold mx_rv at h
  split at h
  · rfl
  · cases h
theorem mx_rok_ok {t : Option FieldType} {v : Int32} (h : mx_rok t v = true) : t = some .int ∨ (t = some .boolean ∧ (v = 0 ∨ v = 1)) := by
  unfold mx_rok at h
  split at h
  · exact Or.inl rfl
  · exact Or.inr ⟨rfl, by simpa using h⟩
  · cases h
set_option maxHeartbeats 4000000 in
theorem mx_sound {l : Launch} {E : mx_Ev} {pg : List mx_En} {sc : Nat × (Nat → Int32)} (hsc : sc = E.2.2.2.2.2.2) (hE : mx_ok E) (hpg : mx_pok pg) : ∀ (n d mi pc : Nat) (ls : List (Nat × Value)) (st : List Value) (hp : List va_E) (c s : Nat) (v : Option Value) (hp' : List va_E) (c' s' : Nat) (e : mx_En), pg[mi]? = some e → mx_run sc pg n d mi pc ls st hp c s = some (v, hp', c', s') →
    c ≤ c' ∧ s ≤ s' ∧ ∀ (R : Room) (mc ms : Nat) (K : Option Value → List va_E → Prop), c' ≤ mc → s' ≤ ms → mc ≤ R.cells → ms ≤ R.slots → d ≤ R.frames → d * 40 ≤ R.locals → K v hp' → mx_W l E e.1 R mc ms K c s pc ls st hp := by
  intro n
  induction n with
  | zero =>
    intro d mi pc ls st hp c s v hp' c' s' e he h
    cases h
  | succ n ih =>
    intro d mi pc ls st hp c s v hp' c' s' e he h
    have callee : ∀ (d1 a : Nat) (e1 : mx_En) (av : List Value) (hp0 : List va_E) (r : Option Value × List va_E × Nat × Nat), pg[a]? = some e1 → a + 1 < pg.length → (lg_sl av).length ≤ e1.1.2.2.1 → mx_run sc pg n d1 a 0 (lv_args 0 av) [] hp0 0 0 = some r →
        mx_M l E e1.1 { frames := d1, cells := r.2.2.1, slots := r.2.2.2, locals := d1 * 40 } av hp0 (fun v2 hp2 => v2 = r.1 ∧ hp2 = r.2.1) := by
      intro d1 a e1 av hp0 r ha hal hlen hr
      obtain ⟨v1, hp1, c1, s1⟩ := r
      have hme := mx_ckm_ok ((hpg.1 a e1 ha).1 hal)
      obtain ⟨-, -, hW⟩ := ih d1 a 0 _ [] hp0 0 0 v1 hp1 c1 s1 e1 ha hr
      exact mx_intro hE hme.1 hlen (hW _ c1 s1 _ (Nat.le_refl _) (Nat.le_refl _) (Nat.le_refl _) (Nat.le_refl _) (Nat.le_refl _) (Nat.le_refl _) ⟨rfl, rfl⟩)
    unfold mx_run at h
    rw [he] at h
    dsimp only at h
    split at h
    · cases h
    rename_i q hq
    obtain ⟨hd, hck⟩ := (hpg.1 mi e he).2 (pc, q) (mx_lk_mem hq)
    dsimp only at hd hck
    unfold mx_ck2 at hck
    obtain ⟨ins, len, a, b, w⟩ := q
    dsimp only at h hd hck
    split at h
    · -- ireturn
      split at h
      · rename_i x
        cases hr : mx_rok e.1.2.2.2 x with
        | false => rw [hr] at h; cases h
        | true =>
          rw [hr] at h
          cases h
          refine ⟨Nat.le_refl _, Nat.le_refl _, fun R mc ms K h1 h2 h3 h4 h5 h6 hK => ?_⟩
          exact mx_ireturn (by rw [hd, Nat.eq_of_beq_eq_true hck]) (mx_rok_ok hr) h1 h2 hK
      · cases h
    · -- return
      split at h
      · cases hr : mx_rv e.1.2.2.2 with
        | false => rw [hr] at h; cases h
        | true =>
          rw [hr] at h
          cases h
          refine ⟨Nat.le_refl _, Nat.le_refl _, fun R mc ms K h1 h2 h3 h4 h5 h6 hK => ?_⟩
          exact mx_return (by rw [hd, Nat.eq_of_beq_eq_true hck]) (mx_rv_ok hr) h1 h2 hK
      · cases h
    · -- invokevirtual
      split at h
      · cases h
      rename_i d1
      split at h
      · cases h
      rename_i e1 ha
      rw [ha] at hck
      dsimp only at hck
      simp only [Bool.and_eq_true] at hck
      obtain ⟨⟨⟨⟨⟨k1, k2⟩, k3⟩, k4⟩, k5⟩, kl⟩ := hck
      split at h
      · rename_i i rest hst
        by_cases hb : (mx_isc hp i b && Nat.ble (mx_cs rest) 8 && Nat.ble (lg_sl (.ref i :: (st.take e1.2.1).reverse)).length e1.1.2.2.1 && Nat.beq (st.take e1.2.1).length e1.2.1) = true
        · rw [hb] at h
          simp only [Bool.and_eq_true] at hb
          obtain ⟨⟨⟨b1, b2⟩, b3⟩, b4⟩ := hb
          dsimp only [cond] at h
          split at h
          · cases h
          rename_i r hr
          have hM := callee d1 a e1 _ hp r ha (Nat.ble_eq.mp kl) (Nat.ble_eq.mp b3) hr
          obtain ⟨i1, i2, i3⟩ := ih (d1 + 1) mi (pc + 3) ls (r.1.toList ++ rest) r.2.1 _ _ v hp' c' s' e he h
          refine ⟨by omega, by omega, fun R mc ms K h1 h2 h3 h4 h5 h6 hK => ?_⟩
          have hme := mx_ckm_ok ((hpg.1 a e1 ha).1 (Nat.ble_eq.mp kl))
          unfold mx_isc at b1
          split at b1
          · rename_i cj fs hi
            have e2 : cj = b := Nat.eq_of_beq_eq_true b1
            subst e2
            rw [mx_split hst]
            refine mx_invV (rm := { frames := d1, cells := r.2.2.1, slots := r.2.2.2, locals := d1 * 40 }) (by rw [hd, Nat.eq_of_beq_eq_true k1]) hi (mx_cls _ (Nat.ble_eq.mp k4)).1 hme.1 (by rw [List.length_reverse]; exact Nat.eq_of_beq_eq_true b4) ⟨mx_has_ok k2, mx_has_ok k3, mx_has_ok k5⟩ hM ⟨h5, ?_⟩ (Nat.ble_eq.mp b2) ⟨?_, ?_⟩ ?_
            · show 8 + (e1.1.2.2.1 + 11) + d1 * 40 ≤ R.locals
              have := hme.2; omega
            · show c + r.2.2.1 ≤ R.cells; omega
            · show s + r.2.2.2 ≤ R.slots; omega
            · rintro v2 hp2 ⟨rfl, rfl⟩
              exact i3 R mc ms K h1 h2 h3 h4 h5 h6 hK
          · cases b1
        · rw [Bool.not_eq_true] at hb
          rw [hb] at h; cases h
      · cases h
    · -- invokespecial
      split at h
      · cases h
      rename_i d1
      by_cases hbb : Nat.beq b 1 = true
      · rw [hbb] at h hck
        dsimp only [cond] at h hck
        rw [Bool.and_eq_true] at hck
        split at h
        · rename_i i rest
          by_cases hb : Nat.ble (mx_cs rest) 8 = true
          · rw [hb] at h
            dsimp only [cond] at h
            obtain ⟨i1, i2, i3⟩ := ih (d1 + 1) mi (pc + 3) ls rest hp c s v hp' c' s' e he h
            refine ⟨i1, i2, fun R mc ms K h1 h2 h3 h4 h5 h6 hK => ?_⟩
            exact mx_objInit (by rw [hd, Nat.eq_of_beq_eq_true hck.1]) (mx_has_ok hck.2) hpg.2.1 hpg.2.2 ⟨by omega, by omega⟩ (Nat.ble_eq.mp hb) (i3 R mc ms K h1 h2 h3 h4 h5 h6 hK)
          · rw [Bool.not_eq_true] at hb
            rw [hb] at h; cases h
        · cases h
      · rw [Bool.not_eq_true] at hbb
        rw [hbb] at h hck
        dsimp only [cond] at h hck
        split at h
        · cases h
        rename_i e1 ha
        rw [ha] at hck
        dsimp only at hck
        simp only [Bool.and_eq_true] at hck
        obtain ⟨⟨⟨⟨⟨k1, k2⟩, k3⟩, k4⟩, k5⟩, kl⟩ := hck
        split at h
        · rename_i i rest hst
          by_cases hb : (Nat.ble (mx_cs rest) 8 && Nat.ble (lg_sl (.ref i :: (st.take e1.2.1).reverse)).length e1.1.2.2.1 && Nat.beq (st.take e1.2.1).length e1.2.1) = true
          · rw [hb] at h
            simp only [Bool.and_eq_true] at hb
            obtain ⟨⟨b2, b3⟩, b4⟩ := hb
            dsimp only [cond] at h
            split at h
            · cases h
            rename_i r hr
            have hM := callee d1 a e1 _ hp r ha (Nat.ble_eq.mp kl) (Nat.ble_eq.mp b3) hr
            obtain ⟨i1, i2, i3⟩ := ih (d1 + 1) mi (pc + 3) ls (r.1.toList ++ rest) r.2.1 _ _ v hp' c' s' e he h
            refine ⟨by omega, by omega, fun R mc ms K h1 h2 h3 h4 h5 h6 hK => ?_⟩
            have hme := mx_ckm_ok ((hpg.1 a e1 ha).1 (Nat.ble_eq.mp kl))
            rw [mx_split hst]
            refine mx_invI (rm := { frames := d1, cells := r.2.2.1, slots := r.2.2.2, locals := d1 * 40 }) (by rw [hd, Nat.eq_of_beq_eq_true k1]) hme.1 (of_decide_eq_true k4) (mx_rv_ok k5) (by rw [List.length_reverse]; exact Nat.eq_of_beq_eq_true b4) ⟨mx_has_ok k2, mx_has_ok k3⟩ hM ⟨h5, ?_⟩ (Nat.ble_eq.mp b2) ⟨?_, ?_⟩ ?_
            · show 8 + (e1.1.2.2.1 + 11) + d1 * 40 ≤ R.locals
              have := hme.2; omega
            · show c + r.2.2.1 ≤ R.cells; omega
            · show s + r.2.2.2 ≤ R.slots; omega
            · rintro v2 hp2 ⟨rfl, rfl⟩
              exact i3 R mc ms K h1 h2 h3 h4 h5 h6 hK
          · rw [Bool.not_eq_true] at hb
            rw [hb] at h; cases h
        · cases h
    · -- invokestatic
      split at h
      · cases h
      rename_i d1
      by_cases hbb : Nat.beq b 7 = true
      · rw [hbb] at h hck
        dsimp only [cond] at h hck
        simp only [Bool.and_eq_true] at hck
        obtain ⟨⟨⟨⟨k1, k2⟩, k3⟩, k4⟩, k5⟩ := hck
        split at h
        · cases h
        rename_i f hf
        obtain ⟨i1, i2, i3⟩ := ih (d1 + 1) mi f.1 f.2.1 f.2.2.1 f.2.2.2.1 _ _ v hp' c' s' e he h
        refine ⟨by omega, by omega, fun R mc ms K h1 h2 h3 h4 h5 h6 hK => ?_⟩
        exact mx_l_cpy (by rw [hd, Nat.eq_of_beq_eq_true k1]) ⟨mx_has_ok k2, mx_has_ok k3, mx_has_ok k4, mx_has_ok k5⟩ ⟨by omega, by omega⟩ hf (i3 R mc ms K h1 h2 h3 h4 h5 h6 hK)
      · rw [Bool.not_eq_true] at hbb
        rw [hbb] at h hck
        dsimp only [cond] at h hck
        split at h
        · cases h
        rename_i e1 ha
        rw [ha] at hck
        dsimp only at hck
        simp only [Bool.and_eq_true] at hck
        obtain ⟨⟨⟨k1, k2⟩, k3⟩, kl⟩ := hck
        by_cases hb : (Nat.ble (mx_cs (st.drop e1.2.1)) 8 && Nat.ble (lg_sl (st.take e1.2.1).reverse).length e1.1.2.2.1 && Nat.beq (st.take e1.2.1).length e1.2.1) = true
        · rw [hb] at h
          simp only [Bool.and_eq_true] at hb
          obtain ⟨⟨b2, b3⟩, b4⟩ := hb
          dsimp only [cond] at h
          split at h
          · cases h
          rename_i r hr
          have hM := callee d1 a e1 _ hp r ha (Nat.ble_eq.mp kl) (Nat.ble_eq.mp b3) hr
          obtain ⟨i1, i2, i3⟩ := ih (d1 + 1) mi (pc + 3) ls (r.1.toList ++ st.drop e1.2.1) r.2.1 _ _ v hp' c' s' e he h
          refine ⟨by omega, by omega, fun R mc ms K h1 h2 h3 h4 h5 h6 hK => ?_⟩
          have hme := mx_ckm_ok ((hpg.1 a e1 ha).1 (Nat.ble_eq.mp kl))
          rw [show st = ((st.take e1.2.1).reverse).reverse ++ st.drop e1.2.1 by rw [List.reverse_reverse, List.take_append_drop]]
          refine mx_invS (rm := { frames := d1, cells := r.2.2.1, slots := r.2.2.2, locals := d1 * 40 }) (by rw [hd, Nat.eq_of_beq_eq_true k1]) hme.1 (by rw [List.length_reverse]; exact Nat.eq_of_beq_eq_true b4) ⟨mx_has_ok k2, mx_has_ok k3⟩ hM ⟨h5, ?_⟩ (Nat.ble_eq.mp b2) ⟨?_, ?_⟩ ?_
          · show 8 + (e1.1.2.2.1 + 11) + d1 * 40 ≤ R.locals
            have := hme.2; omega
          · show c + r.2.2.1 ≤ R.cells; omega
          · show s + r.2.2.2 ≤ R.slots; omega
          · rintro v2 hp2 ⟨rfl, rfl⟩
            exact i3 R mc ms K h1 h2 h3 h4 h5 h6 hK
        · rw [Bool.not_eq_true] at hb
          rw [hb] at h; cases h
    · -- a step
      rename_i n1 n2 n3 n4 n5
      split at h
      · cases h
      rename_i f hf
      have hck1 : mx_ck1 e.1 pc (ins, len, a, b, w) = true := by
        split at hck
        all_goals first | exact hck | (exfalso; simp_all)
      obtain ⟨i1, i2, i3⟩ := ih d mi f.1 f.2.1 f.2.2.1 f.2.2.2.1 _ _ v hp' c' s' e he h
      refine ⟨by omega, by omega, fun R mc ms K h1 h2 h3 h4 h5 h6 hK => ?_⟩
      exact mx_step_ok (q := (ins, len, a, b, w)) hsc hd hck1 hf (by omega) (by omega) (i3 R mc ms K h1 h2 h3 h4 h5 h6 hK)
/-- the check of a method's rows, by its number -/
def mx_cka (pg : List mx_En) (k : Nat) : Bool := match pg[k]? with
  | none => true
  | some e => (Nat.ble pg.length (k + 1) || mx_ckm e) && e.2.2.2.all (fun x => decide (decode e.1.2.1 x.1 = .ok (x.2.1, x.2.2.1)) && mx_ck2 pg e.1 x.1 x.2)
theorem mx_cka_ok {pg : List mx_En} {k : Nat} {e : mx_En} (he : pg[k]? = some e) (h : mx_cka pg k = true) : (k + 1 < pg.length → mx_ckm e = true) ∧ ∀ x ∈ e.2.2.2, decode e.1.2.1 x.1 = .ok (x.2.1, x.2.2.1) ∧ mx_ck2 pg e.1 x.1 x.2 = true := by
  unfold mx_cka at h
  rw [he] at h
  dsimp only at h
  rw [Bool.and_eq_true] at h
  refine ⟨fun hk => ?_, fun x hx => ?_⟩
  · rcases Bool.or_eq_true_iff.mp h.1 with h1 | h1
    · exact absurd (Nat.ble_eq.mp h1) (by omega)
    · exact h1
  · have := List.all_eq_true.mp h.2 x hx
    rw [Bool.and_eq_true] at this
    exact ⟨of_decide_eq_true this.1, this.2⟩
theorem mx_pok_of {pg : List mx_En} (h : ∀ k, k < pg.length → mx_cka pg k = true) (h2 : Cond.instanceMethod objectInit ∈ mx_tb ∧ Cond.code objectInit ⟨#[0xb1]⟩ 1 none ∈ mx_tb) : mx_pok pg :=
  ⟨fun k e he => mx_cka_ok he (h k (List.getElem?_eq_some_iff.mp he).1), h2⟩
set_option maxHeartbeats 4000000 in
theorem mx_mono1 {sc : Nat × (Nat → Int32)} {pg : List mx_En} : ∀ (n d mi pc : Nat) (ls : List (Nat × Value)) (st : List Value) (hp : List va_E) (c s : Nat) (r : Option Value × List va_E × Nat × Nat), mx_run sc pg n d mi pc ls st hp c s = some r → mx_run sc pg (n + 1) d mi pc ls st hp c s = some r := by
  intro n
  induction n with
  | zero => intro d mi pc ls st hp c s r h; cases h
  | succ n ih =>
    intro d mi pc ls st hp c s r h
    unfold mx_run at h ⊢
    cases he : pg[mi]? with
    | none => rw [he] at h; cases h
    | some e =>
      rw [he] at h
      dsimp only at h ⊢
      cases hq : mx_lk e.2.2.2 pc with
      | none => rw [hq] at h; cases h
      | some q =>
        rw [hq] at h
        dsimp only at h ⊢
        split at h
        · exact h
        · exact h
        · split at h
          · cases h
          split at h
          · cases h
          split at h
          · rw [Bool.cond_eq_ite] at h ⊢
            split at h
            · rename_i hb
              rw [if_pos hb]
              split at h
              · cases h
              rename_i r1 hr1
              rw [ih _ _ _ _ _ _ _ _ _ hr1]
              exact ih _ _ _ _ _ _ _ _ _ h
            · cases h
          · cases h
        · split at h
          · cases h
          rw [Bool.cond_eq_ite] at h ⊢
          split at h
          · rename_i hb
            rw [if_pos hb]
            split at h
            · rw [Bool.cond_eq_ite] at h ⊢
              split at h
              · rename_i hb2
                rw [if_pos hb2]
                exact ih _ _ _ _ _ _ _ _ _ h
              · cases h
            · cases h
          · rename_i hb
            rw [if_neg hb]
            split at h
            · cases h
            split at h
            · rw [Bool.cond_eq_ite] at h ⊢
              split at h
              · rename_i hb2
                rw [if_pos hb2]
                split at h
                · cases h
                rename_i r1 hr1
                rw [ih _ _ _ _ _ _ _ _ _ hr1]
                exact ih _ _ _ _ _ _ _ _ _ h
              · cases h
            · cases h
        · split at h
          · cases h
          rw [Bool.cond_eq_ite] at h ⊢
          split at h
          · rename_i hb
            rw [if_pos hb]
            split at h
            · cases h
            exact ih _ _ _ _ _ _ _ _ _ h
          · rename_i hb
            rw [if_neg hb]
            split at h
            · cases h
            rw [Bool.cond_eq_ite] at h ⊢
            split at h
            · rename_i hb2
              rw [if_pos hb2]
              split at h
              · cases h
              rename_i r1 hr1
              rw [ih _ _ _ _ _ _ _ _ _ hr1]
              exact ih _ _ _ _ _ _ _ _ _ h
            · cases h
        · split at h
          · cases h
          exact ih _ _ _ _ _ _ _ _ _ h
theorem mx_mono {sc : Nat × (Nat → Int32)} {pg : List mx_En} {n d mi pc : Nat} {ls : List (Nat × Value)} {st : List Value} {hp : List va_E} {c s : Nat} {r : Option Value × List va_E × Nat × Nat} (h : mx_run sc pg n d mi pc ls st hp c s = some r) : ∀ m, n ≤ m → mx_run sc pg m d mi pc ls st hp c s = some r := by
  intro m hm
  obtain ⟨k, rfl⟩ := Nat.le.dest hm
  induction k with
  | zero => exact h
  | succ k ih => exact mx_mono1 _ _ _ _ _ _ _ _ _ _ (ih (Nat.le_add_right _ _))
/-- it ends, with this -/
def mx_ends (sc : Nat × (Nat → Int32)) (pg : List mx_En) (d mi pc : Nat) (ls : List (Nat × Value)) (st : List Value) (hp : List va_E) (c s : Nat) (r : Option Value × List va_E × Nat × Nat) : Prop := ∃ n, mx_run sc pg n d mi pc ls st hp c s = some r
/-- a number of steps that call nobody -/
def mx_go (sc : Nat × (Nat → Int32)) (tab : List (Nat × mx_In)) : Nat → mx_Cf → Option mx_Cf
  | 0, x => some x
  | n + 1, x => match mx_lk tab x.1 with
    | none => none
    | some q => match mx_step sc q x.1 x.2.1 x.2.2.1 x.2.2.2.1 with
      | none => none
      | some f => mx_go sc tab n (f.1, f.2.1, f.2.2.1, f.2.2.2.1, x.2.2.2.2.1 + f.2.2.2.2.1, x.2.2.2.2.2 + f.2.2.2.2.2)
theorem mx_ends_step {sc : Nat × (Nat → Int32)} {pg : List mx_En} {d mi pc : Nat} {ls : List (Nat × Value)} {st : List Value} {hp : List va_E} {c s : Nat} {r : Option Value × List va_E × Nat × Nat} {e : mx_En} {q : mx_In} {f : mx_Cf} (he : pg[mi]? = some e) (hq : mx_lk e.2.2.2 pc = some q) (hf : mx_step sc q pc ls st hp = some f) (h : mx_ends sc pg d mi f.1 f.2.1 f.2.2.1 f.2.2.2.1 (c + f.2.2.2.2.1) (s + f.2.2.2.2.2) r) : mx_ends sc pg d mi pc ls st hp c s r := by
  obtain ⟨n, h⟩ := h
  refine ⟨n + 1, ?_⟩
  unfold mx_run
  rw [he]
  dsimp only
  rw [hq]
  dsimp only
  obtain ⟨ins, q⟩ := q
  unfold mx_step at hf
  dsimp only at hf ⊢
  split
  all_goals first | (cases hf; done) | skip
  rw [show mx_step sc (ins, q) pc ls st hp = some f by unfold mx_step; exact hf]
  exact h
theorem mx_ends_go {sc : Nat × (Nat → Int32)} {pg : List mx_En} {d mi : Nat} {r : Option Value × List va_E × Nat × Nat} {e : mx_En} (he : pg[mi]? = some e) : ∀ (n : Nat) (x y : mx_Cf), mx_go sc e.2.2.2 n x = some y → mx_ends sc pg d mi y.1 y.2.1 y.2.2.1 y.2.2.2.1 y.2.2.2.2.1 y.2.2.2.2.2 r → mx_ends sc pg d mi x.1 x.2.1 x.2.2.1 x.2.2.2.1 x.2.2.2.2.1 x.2.2.2.2.2 r
  | 0, x, y, h, k => by
    cases h
    exact k
  | n + 1, x, y, h, k => by
    unfold mx_go at h
    split at h
    · cases h
    rename_i q hq
    split at h
    · cases h
    rename_i f hf
    exact mx_ends_step he hq hf (mx_ends_go he n _ y h k)
end
