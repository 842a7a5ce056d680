section
-- ===== PART A: goes FIRST, ahead of the names: the tables' words, and 'selects' of the private methods out of them =====
/-- a private method of a class that the tables say can be made, by its rows of tables_1 -/
def lw_okq (q : MethodName × Nat) : Prop := (q.1.cls ≠ "java/lang/invoke/MethodHandle" ∧ q.1.cls ≠ "java/lang/invoke/VarHandle") ∧ Cond.instantiable q.1.cls q.2 ∈ tables_1 ∧ Cond.privateMethod q.1 ∈ tables_1 ∧ Cond.instanceMethod q.1 ∈ tables_1
theorem lw_p0 : lw_okq (⟨"EntropyBounds$Contexts", "codeBefore", "(LEntropyBounds$Text;I)I"⟩, 9) := ⟨⟨by decide +kernel, by decide +kernel⟩, List.mem_of_getElem? (i := 89) (by decide +kernel), List.mem_of_getElem? (i := 355) (by decide +kernel), List.mem_of_getElem? (i := 356) (by decide +kernel)⟩
theorem lw_p1 : lw_okq (⟨"EntropyBounds$Contexts", "numberOf", "(I)I"⟩, 9) := ⟨⟨by decide +kernel, by decide +kernel⟩, List.mem_of_getElem? (i := 89) (by decide +kernel), List.mem_of_getElem? (i := 359) (by decide +kernel), List.mem_of_getElem? (i := 360) (by decide +kernel)⟩
theorem lw_p2 : lw_okq (⟨"EntropyBounds$Contexts", "entryOf", "(II)I"⟩, 9) := ⟨⟨by decide +kernel, by decide +kernel⟩, List.mem_of_getElem? (i := 89) (by decide +kernel), List.mem_of_getElem? (i := 363) (by decide +kernel), List.mem_of_getElem? (i := 364) (by decide +kernel)⟩
theorem lw_p3 : lw_okq (⟨"EntropyBounds$Contexts", "findEntry", "(II)I"⟩, 9) := ⟨⟨by decide +kernel, by decide +kernel⟩, List.mem_of_getElem? (i := 89) (by decide +kernel), List.mem_of_getElem? (i := 367) (by decide +kernel), List.mem_of_getElem? (i := 368) (by decide +kernel)⟩
theorem lw_p4 : lw_okq (⟨"EntropyBounds$Logs", "fraction", "(III)I"⟩, 1) := ⟨⟨by decide +kernel, by decide +kernel⟩, List.mem_of_getElem? (i := 136) (by decide +kernel), List.mem_of_getElem? (i := 403) (by decide +kernel), List.mem_of_getElem? (i := 404) (by decide +kernel)⟩
theorem lw_p5 : lw_okq (⟨"EntropyBounds", "costOfKind", "(III)J"⟩, 8) := ⟨⟨by decide +kernel, by decide +kernel⟩, List.mem_of_getElem? (i := 25) (by decide +kernel), List.mem_of_getElem? (i := 432) (by decide +kernel), List.mem_of_getElem? (i := 433) (by decide +kernel)⟩
theorem lw_p6 : lw_okq (⟨"EntropyBounds$Costs", "partInWhole", "(IIII)J"⟩, 2) := ⟨⟨by decide +kernel, by decide +kernel⟩, List.mem_of_getElem? (i := 130) (by decide +kernel), List.mem_of_getElem? (i := 440) (by decide +kernel), List.mem_of_getElem? (i := 441) (by decide +kernel)⟩
theorem lw_p7 : lw_okq (⟨"EntropyBounds$Words", "plantTrees", "(LEntropyBounds$Text;)V"⟩, 5) := ⟨⟨by decide +kernel, by decide +kernel⟩, List.mem_of_getElem? (i := 154) (by decide +kernel), List.mem_of_getElem? (i := 471) (by decide +kernel), List.mem_of_getElem? (i := 472) (by decide +kernel)⟩
theorem lw_p8 : lw_okq (⟨"EntropyBounds$Words", "widenTree", "(I)V"⟩, 5) := ⟨⟨by decide +kernel, by decide +kernel⟩, List.mem_of_getElem? (i := 154) (by decide +kernel), List.mem_of_getElem? (i := 475) (by decide +kernel), List.mem_of_getElem? (i := 476) (by decide +kernel)⟩
theorem lw_p9 : lw_okq (⟨"EntropyBounds$Words", "joinTwoTrees", "()V"⟩, 5) := ⟨⟨by decide +kernel, by decide +kernel⟩, List.mem_of_getElem? (i := 154) (by decide +kernel), List.mem_of_getElem? (i := 479) (by decide +kernel), List.mem_of_getElem? (i := 480) (by decide +kernel)⟩
theorem lw_p10 : lw_okq (⟨"EntropyBounds$Words", "takeLeastTree", "()I"⟩, 5) := ⟨⟨by decide +kernel, by decide +kernel⟩, List.mem_of_getElem? (i := 154) (by decide +kernel), List.mem_of_getElem? (i := 483) (by decide +kernel), List.mem_of_getElem? (i := 484) (by decide +kernel)⟩
theorem lw_p11 : lw_okq (⟨"EntropyBounds", "widthOfKind", "(II)I"⟩, 8) := ⟨⟨by decide +kernel, by decide +kernel⟩, List.mem_of_getElem? (i := 25) (by decide +kernel), List.mem_of_getElem? (i := 487) (by decide +kernel), List.mem_of_getElem? (i := 488) (by decide +kernel)⟩
theorem lw_p12 : lw_okq (⟨"EntropyBounds", "cutPieces", "(I)LEntropyBounds$Pieces;"⟩, 8) := ⟨⟨by decide +kernel, by decide +kernel⟩, List.mem_of_getElem? (i := 25) (by decide +kernel), List.mem_of_getElem? (i := 502) (by decide +kernel), List.mem_of_getElem? (i := 503) (by decide +kernel)⟩
theorem lw_p13 : lw_okq (⟨"EntropyBounds$Factors", "addFactor", "(LEntropyBounds$Text;I)V"⟩, 5) := ⟨⟨by decide +kernel, by decide +kernel⟩, List.mem_of_getElem? (i := 177) (by decide +kernel), List.mem_of_getElem? (i := 518) (by decide +kernel), List.mem_of_getElem? (i := 519) (by decide +kernel)⟩
theorem lw_p14 : lw_okq (⟨"EntropyBounds$Phrases", "findPhrase", "(LEntropyBounds$Text;II)I"⟩, 5) := ⟨⟨by decide +kernel, by decide +kernel⟩, List.mem_of_getElem? (i := 218) (by decide +kernel), List.mem_of_getElem? (i := 537) (by decide +kernel), List.mem_of_getElem? (i := 538) (by decide +kernel)⟩
theorem lw_p15 : lw_okq (⟨"EntropyBounds$Grammar", "addRule", "()Z"⟩, 7) := ⟨⟨by decide +kernel, by decide +kernel⟩, List.mem_of_getElem? (i := 230) (by decide +kernel), List.mem_of_getElem? (i := 559) (by decide +kernel), List.mem_of_getElem? (i := 560) (by decide +kernel)⟩
def lw_privs_1 : List (MethodName × Nat) := [(⟨"EntropyBounds$Contexts", "codeBefore", "(LEntropyBounds$Text;I)I"⟩, 9), (⟨"EntropyBounds$Contexts", "numberOf", "(I)I"⟩, 9), (⟨"EntropyBounds$Contexts", "entryOf", "(II)I"⟩, 9), (⟨"EntropyBounds$Contexts", "findEntry", "(II)I"⟩, 9), (⟨"EntropyBounds$Logs", "fraction", "(III)I"⟩, 1), (⟨"EntropyBounds", "costOfKind", "(III)J"⟩, 8), (⟨"EntropyBounds$Costs", "partInWhole", "(IIII)J"⟩, 2), (⟨"EntropyBounds$Words", "plantTrees", "(LEntropyBounds$Text;)V"⟩, 5), (⟨"EntropyBounds$Words", "widenTree", "(I)V"⟩, 5), (⟨"EntropyBounds$Words", "joinTwoTrees", "()V"⟩, 5), (⟨"EntropyBounds$Words", "takeLeastTree", "()I"⟩, 5), (⟨"EntropyBounds", "widthOfKind", "(II)I"⟩, 8), (⟨"EntropyBounds", "cutPieces", "(I)LEntropyBounds$Pieces;"⟩, 8), (⟨"EntropyBounds$Factors", "addFactor", "(LEntropyBounds$Text;I)V"⟩, 5), (⟨"EntropyBounds$Phrases", "findPhrase", "(LEntropyBounds$Text;II)I"⟩, 5), (⟨"EntropyBounds$Grammar", "addRule", "()Z"⟩, 7)]
theorem lw_r1 : ∀ q ∈ lw_privs_1, lw_okq q := List.forall_mem_cons.mpr ⟨lw_p0, List.forall_mem_cons.mpr ⟨lw_p1, List.forall_mem_cons.mpr ⟨lw_p2, List.forall_mem_cons.mpr ⟨lw_p3, List.forall_mem_cons.mpr ⟨lw_p4, List.forall_mem_cons.mpr ⟨lw_p5, List.forall_mem_cons.mpr ⟨lw_p6, List.forall_mem_cons.mpr ⟨lw_p7, List.forall_mem_cons.mpr ⟨lw_p8, List.forall_mem_cons.mpr ⟨lw_p9, List.forall_mem_cons.mpr ⟨lw_p10, List.forall_mem_cons.mpr ⟨lw_p11, List.forall_mem_cons.mpr ⟨lw_p12, List.forall_mem_cons.mpr ⟨lw_p13, List.forall_mem_cons.mpr ⟨lw_p14, List.forall_mem_cons.mpr ⟨lw_p15, fun _ h => absurd h List.not_mem_nil⟩⟩⟩⟩⟩⟩⟩⟩⟩⟩⟩⟩⟩⟩⟩⟩
theorem lw_p16 : lw_okq (⟨"EntropyBounds$Pairs", "pairOf", "(II)I"⟩, 7) := ⟨⟨by decide +kernel, by decide +kernel⟩, List.mem_of_getElem? (i := 236) (by decide +kernel), List.mem_of_getElem? (i := 568) (by decide +kernel), List.mem_of_getElem? (i := 569) (by decide +kernel)⟩
theorem lw_p17 : lw_okq (⟨"EntropyBounds$Pairs", "goesBefore", "(II)Z"⟩, 7) := ⟨⟨by decide +kernel, by decide +kernel⟩, List.mem_of_getElem? (i := 236) (by decide +kernel), List.mem_of_getElem? (i := 576) (by decide +kernel), List.mem_of_getElem? (i := 577) (by decide +kernel)⟩
theorem lw_p18 : lw_okq (⟨"EntropyBounds$Grammar", "replacePair", "(III)V"⟩, 7) := ⟨⟨by decide +kernel, by decide +kernel⟩, List.mem_of_getElem? (i := 230) (by decide +kernel), List.mem_of_getElem? (i := 580) (by decide +kernel), List.mem_of_getElem? (i := 581) (by decide +kernel)⟩
theorem lw_p19 : lw_okq (⟨"java/lang/Throwable", "fillInStackTrace", "(I)Ljava/lang/Throwable;"⟩, 6) := ⟨⟨by decide +kernel, by decide +kernel⟩, List.mem_of_getElem? (i := 621) (by decide +kernel), List.mem_of_getElem? (i := 619) (by decide +kernel), List.mem_of_getElem? (i := 620) (by decide +kernel)⟩
theorem lw_p20 : lw_okq (⟨"EntropyBoundsModel", "findContexts", "()V"⟩, 25) := ⟨⟨by decide +kernel, by decide +kernel⟩, List.mem_of_getElem? (i := 703) (by decide +kernel), List.mem_of_getElem? (i := 813) (by decide +kernel), List.mem_of_getElem? (i := 814) (by decide +kernel)⟩
theorem lw_p21 : lw_okq (⟨"EntropyBoundsModel", "isSameAhead", "(II)Z"⟩, 25) := ⟨⟨by decide +kernel, by decide +kernel⟩, List.mem_of_getElem? (i := 703) (by decide +kernel), List.mem_of_getElem? (i := 817) (by decide +kernel), List.mem_of_getElem? (i := 818) (by decide +kernel)⟩
theorem lw_p22 : lw_okq (⟨"EntropyBoundsModel", "sumOfWeights", "()I"⟩, 25) := ⟨⟨by decide +kernel, by decide +kernel⟩, List.mem_of_getElem? (i := 703) (by decide +kernel), List.mem_of_getElem? (i := 857) (by decide +kernel), List.mem_of_getElem? (i := 858) (by decide +kernel)⟩
theorem lw_p23 : lw_okq (⟨"EntropyBoundsModel", "costBy", "(III)J"⟩, 25) := ⟨⟨by decide +kernel, by decide +kernel⟩, List.mem_of_getElem? (i := 703) (by decide +kernel), List.mem_of_getElem? (i := 866) (by decide +kernel), List.mem_of_getElem? (i := 867) (by decide +kernel)⟩
theorem lw_p24 : lw_okq (⟨"EntropyBoundsModel", "content", "(II)J"⟩, 25) := ⟨⟨by decide +kernel, by decide +kernel⟩, List.mem_of_getElem? (i := 703) (by decide +kernel), List.mem_of_getElem? (i := 870) (by decide +kernel), List.mem_of_getElem? (i := 871) (by decide +kernel)⟩
theorem lw_p25 : lw_okq (⟨"EntropyBoundsModel", "cross", "(II)J"⟩, 25) := ⟨⟨by decide +kernel, by decide +kernel⟩, List.mem_of_getElem? (i := 703) (by decide +kernel), List.mem_of_getElem? (i := 877) (by decide +kernel), List.mem_of_getElem? (i := 878) (by decide +kernel)⟩
theorem lw_p26 : lw_okq (⟨"EntropyBoundsModel", "often", "(II)I"⟩, 25) := ⟨⟨by decide +kernel, by decide +kernel⟩, List.mem_of_getElem? (i := 703) (by decide +kernel), List.mem_of_getElem? (i := 881) (by decide +kernel), List.mem_of_getElem? (i := 882) (by decide +kernel)⟩
theorem lw_p27 : lw_okq (⟨"EntropyBoundsModel", "growing", "(II)J"⟩, 25) := ⟨⟨by decide +kernel, by decide +kernel⟩, List.mem_of_getElem? (i := 703) (by decide +kernel), List.mem_of_getElem? (i := 886) (by decide +kernel), List.mem_of_getElem? (i := 887) (by decide +kernel)⟩
theorem lw_p28 : lw_okq (⟨"EntropyBoundsModel", "findWords", "()V"⟩, 25) := ⟨⟨by decide +kernel, by decide +kernel⟩, List.mem_of_getElem? (i := 703) (by decide +kernel), List.mem_of_getElem? (i := 902) (by decide +kernel), List.mem_of_getElem? (i := 903) (by decide +kernel)⟩
theorem lw_p29 : lw_okq (⟨"EntropyBoundsModel", "takeLeast", "()I"⟩, 25) := ⟨⟨by decide +kernel, by decide +kernel⟩, List.mem_of_getElem? (i := 703) (by decide +kernel), List.mem_of_getElem? (i := 906) (by decide +kernel), List.mem_of_getElem? (i := 907) (by decide +kernel)⟩
theorem lw_p30 : lw_okq (⟨"EntropyBoundsModel", "stepWidth", "(I)I"⟩, 25) := ⟨⟨by decide +kernel, by decide +kernel⟩, List.mem_of_getElem? (i := 703) (by decide +kernel), List.mem_of_getElem? (i := 910) (by decide +kernel), List.mem_of_getElem? (i := 911) (by decide +kernel)⟩
theorem lw_p31 : lw_okq (⟨"EntropyBoundsModel", "findPieces", "(I)V"⟩, 25) := ⟨⟨by decide +kernel, by decide +kernel⟩, List.mem_of_getElem? (i := 703) (by decide +kernel), List.mem_of_getElem? (i := 922) (by decide +kernel), List.mem_of_getElem? (i := 923) (by decide +kernel)⟩
def lw_privs_2 : List (MethodName × Nat) := [(⟨"EntropyBounds$Pairs", "pairOf", "(II)I"⟩, 7), (⟨"EntropyBounds$Pairs", "goesBefore", "(II)Z"⟩, 7), (⟨"EntropyBounds$Grammar", "replacePair", "(III)V"⟩, 7), (⟨"java/lang/Throwable", "fillInStackTrace", "(I)Ljava/lang/Throwable;"⟩, 6), (⟨"EntropyBoundsModel", "findContexts", "()V"⟩, 25), (⟨"EntropyBoundsModel", "isSameAhead", "(II)Z"⟩, 25), (⟨"EntropyBoundsModel", "sumOfWeights", "()I"⟩, 25), (⟨"EntropyBoundsModel", "costBy", "(III)J"⟩, 25), (⟨"EntropyBoundsModel", "content", "(II)J"⟩, 25), (⟨"EntropyBoundsModel", "cross", "(II)J"⟩, 25), (⟨"EntropyBoundsModel", "often", "(II)I"⟩, 25), (⟨"EntropyBoundsModel", "growing", "(II)J"⟩, 25), (⟨"EntropyBoundsModel", "findWords", "()V"⟩, 25), (⟨"EntropyBoundsModel", "takeLeast", "()I"⟩, 25), (⟨"EntropyBoundsModel", "stepWidth", "(I)I"⟩, 25), (⟨"EntropyBoundsModel", "findPieces", "(I)V"⟩, 25)]
theorem lw_r2 : ∀ q ∈ lw_privs_2, lw_okq q := List.forall_mem_cons.mpr ⟨lw_p16, List.forall_mem_cons.mpr ⟨lw_p17, List.forall_mem_cons.mpr ⟨lw_p18, List.forall_mem_cons.mpr ⟨lw_p19, List.forall_mem_cons.mpr ⟨lw_p20, List.forall_mem_cons.mpr ⟨lw_p21, List.forall_mem_cons.mpr ⟨lw_p22, List.forall_mem_cons.mpr ⟨lw_p23, List.forall_mem_cons.mpr ⟨lw_p24, List.forall_mem_cons.mpr ⟨lw_p25, List.forall_mem_cons.mpr ⟨lw_p26, List.forall_mem_cons.mpr ⟨lw_p27, List.forall_mem_cons.mpr ⟨lw_p28, List.forall_mem_cons.mpr ⟨lw_p29, List.forall_mem_cons.mpr ⟨lw_p30, List.forall_mem_cons.mpr ⟨lw_p31, fun _ h => absurd h List.not_mem_nil⟩⟩⟩⟩⟩⟩⟩⟩⟩⟩⟩⟩⟩⟩⟩⟩
theorem lw_p32 : lw_okq (⟨"EntropyBoundsModel", "findFactors", "()V"⟩, 25) := ⟨⟨by decide +kernel, by decide +kernel⟩, List.mem_of_getElem? (i := 703) (by decide +kernel), List.mem_of_getElem? (i := 926) (by decide +kernel), List.mem_of_getElem? (i := 927) (by decide +kernel)⟩
theorem lw_p33 : lw_okq (⟨"EntropyBoundsModel", "alike", "(II)I"⟩, 25) := ⟨⟨by decide +kernel, by decide +kernel⟩, List.mem_of_getElem? (i := 703) (by decide +kernel), List.mem_of_getElem? (i := 930) (by decide +kernel), List.mem_of_getElem? (i := 931) (by decide +kernel)⟩
theorem lw_p34 : lw_okq (⟨"EntropyBoundsModel", "put", "(III)V"⟩, 25) := ⟨⟨by decide +kernel, by decide +kernel⟩, List.mem_of_getElem? (i := 703) (by decide +kernel), List.mem_of_getElem? (i := 934) (by decide +kernel), List.mem_of_getElem? (i := 935) (by decide +kernel)⟩
theorem lw_p35 : lw_okq (⟨"EntropyBoundsModel", "findPhrases", "()V"⟩, 25) := ⟨⟨by decide +kernel, by decide +kernel⟩, List.mem_of_getElem? (i := 703) (by decide +kernel), List.mem_of_getElem? (i := 938) (by decide +kernel), List.mem_of_getElem? (i := 939) (by decide +kernel)⟩
theorem lw_p36 : lw_okq (⟨"EntropyBoundsModel", "phraseOf", "(II)I"⟩, 25) := ⟨⟨by decide +kernel, by decide +kernel⟩, List.mem_of_getElem? (i := 703) (by decide +kernel), List.mem_of_getElem? (i := 942) (by decide +kernel), List.mem_of_getElem? (i := 943) (by decide +kernel)⟩
theorem lw_p37 : lw_okq (⟨"EntropyBoundsModel", "makeGrammar", "()V"⟩, 25) := ⟨⟨by decide +kernel, by decide +kernel⟩, List.mem_of_getElem? (i := 703) (by decide +kernel), List.mem_of_getElem? (i := 954) (by decide +kernel), List.mem_of_getElem? (i := 955) (by decide +kernel)⟩
theorem lw_p38 : lw_okq (⟨"EntropyBoundsModel", "isMade", "()Z"⟩, 25) := ⟨⟨by decide +kernel, by decide +kernel⟩, List.mem_of_getElem? (i := 703) (by decide +kernel), List.mem_of_getElem? (i := 958) (by decide +kernel), List.mem_of_getElem? (i := 959) (by decide +kernel)⟩
theorem lw_p39 : lw_okq (⟨"EntropyBoundsModel", "bestPair", "()I"⟩, 25) := ⟨⟨by decide +kernel, by decide +kernel⟩, List.mem_of_getElem? (i := 703) (by decide +kernel), List.mem_of_getElem? (i := 962) (by decide +kernel), List.mem_of_getElem? (i := 963) (by decide +kernel)⟩
theorem lw_p40 : lw_okq (⟨"EntropyBoundsModel", "countPair", "(II)I"⟩, 25) := ⟨⟨by decide +kernel, by decide +kernel⟩, List.mem_of_getElem? (i := 703) (by decide +kernel), List.mem_of_getElem? (i := 966) (by decide +kernel), List.mem_of_getElem? (i := 967) (by decide +kernel)⟩
def lw_privs_3 : List (MethodName × Nat) := [(⟨"EntropyBoundsModel", "findFactors", "()V"⟩, 25), (⟨"EntropyBoundsModel", "alike", "(II)I"⟩, 25), (⟨"EntropyBoundsModel", "put", "(III)V"⟩, 25), (⟨"EntropyBoundsModel", "findPhrases", "()V"⟩, 25), (⟨"EntropyBoundsModel", "phraseOf", "(II)I"⟩, 25), (⟨"EntropyBoundsModel", "makeGrammar", "()V"⟩, 25), (⟨"EntropyBoundsModel", "isMade", "()Z"⟩, 25), (⟨"EntropyBoundsModel", "bestPair", "()I"⟩, 25), (⟨"EntropyBoundsModel", "countPair", "(II)I"⟩, 25)]
theorem lw_r3 : ∀ q ∈ lw_privs_3, lw_okq q := List.forall_mem_cons.mpr ⟨lw_p32, List.forall_mem_cons.mpr ⟨lw_p33, List.forall_mem_cons.mpr ⟨lw_p34, List.forall_mem_cons.mpr ⟨lw_p35, List.forall_mem_cons.mpr ⟨lw_p36, List.forall_mem_cons.mpr ⟨lw_p37, List.forall_mem_cons.mpr ⟨lw_p38, List.forall_mem_cons.mpr ⟨lw_p39, List.forall_mem_cons.mpr ⟨lw_p40, fun _ h => absurd h List.not_mem_nil⟩⟩⟩⟩⟩⟩⟩⟩⟩
def lw_privs : List (MethodName × Nat) := lw_privs_1 ++ (lw_privs_2 ++ (lw_privs_3))
def lw_tbl : List Cond := k2_sels lw_privs ++ tables_1
theorem lw_privs_ok : ∀ q ∈ lw_privs, lw_okq q := by
  show ∀ q ∈ lw_privs_1 ++ (lw_privs_2 ++ (lw_privs_3)), lw_okq q
  exact List.forall_mem_append.mpr ⟨lw_r1, List.forall_mem_append.mpr ⟨lw_r2, lw_r3⟩⟩
end
section
def RX0 : String := "EntropyBounds$Contexts"
def TX0 : u_T := fun k => match k with
  | 0 => ("EntropyBounds$Contexts", "codes", "[I", true)
  | 1 => ("EntropyBounds$Contexts", "alls", "[I", true)
  | 2 => ("EntropyBounds$Contexts", "entryContexts", "[I", true)
  | 3 => ("EntropyBounds$Contexts", "entrySigns", "[I", true)
  | 4 => ("EntropyBounds$Contexts", "entryCounts", "[I", true)
  | 5 => ("EntropyBounds$Contexts", "order", "I", false)
  | 6 => ("EntropyBounds$Contexts", "known", "I", false)
  | 7 => ("EntropyBounds$Contexts", "entries", "I", false)
  | _ => ("EntropyBounds$Contexts", "seenChanges", "I", false)
def tyX0 : Nat → FieldType := fun k => match k with
  | 0 => .array .int
  | 1 => .array .int
  | 2 => .array .int
  | 3 => .array .int
  | 4 => .array .int
  | 5 => .int
  | 6 => .int
  | 7 => .int
  | _ => .int
abbrev wsX00 : List Cond := u_ws RX0 TX0 9
theorem nmX0 : ∀ a, a < 9 → ∀ b, b < 9 → a ≠ b → (TX0 a).2.1 ≠ (TX0 b).2.1 := by decide +kernel
theorem tyX0_ok : ∀ k, k < 9 → parseFieldDescriptor (TX0 k).2.2.1 = some (tyX0 k) := by decide +kernel
abbrev cX0_init : ByteArray := prog_2_method_1_code
def yX0_init : MethodName := ⟨RX0, "<init>", "()V"⟩
abbrev cX0_setOrder : ByteArray := prog_2_method_2_code
def yX0_setOrder : MethodName := ⟨RX0, "setOrder", "(I)V"⟩
abbrev cX0_follow : ByteArray := prog_2_method_3_code
def yX0_follow : MethodName := ⟨RX0, "follow", "(LEntropyBounds$Text;)V"⟩
abbrev cX0_signOf : ByteArray := prog_2_method_4_code
def yX0_signOf : MethodName := ⟨RX0, "signOf", "(II)I"⟩
abbrev cX0_countOf : ByteArray := prog_2_method_5_code
def yX0_countOf : MethodName := ⟨RX0, "countOf", "(II)I"⟩
abbrev cX0_codeBefore : ByteArray := prog_2_method_6_code
def yX0_codeBefore : MethodName := ⟨RX0, "codeBefore", "(LEntropyBounds$Text;I)I"⟩
abbrev cX0_numberOf : ByteArray := prog_2_method_7_code
def yX0_numberOf : MethodName := ⟨RX0, "numberOf", "(I)I"⟩
abbrev cX0_entryOf : ByteArray := prog_2_method_8_code
def yX0_entryOf : MethodName := ⟨RX0, "entryOf", "(II)I"⟩
abbrev cX0_findEntry : ByteArray := prog_2_method_9_code
def yX0_findEntry : MethodName := ⟨RX0, "findEntry", "(II)I"⟩
def RX1 : String := "EntropyBounds$Costs"
def TX1 : u_T := fun k => match k with
  | 0 => ("EntropyBounds$Costs", "logs", "LEntropyBounds$Logs;", true)
  | _ => ("EntropyBounds$Costs", "before", "[I", true)
def tyX1 : Nat → FieldType := fun k => match k with
  | 0 => .object "EntropyBounds$Logs"
  | _ => .array .int
abbrev wsX10 : List Cond := u_ws RX1 TX1 2
theorem nmX1 : ∀ a, a < 2 → ∀ b, b < 2 → a ≠ b → (TX1 a).2.1 ≠ (TX1 b).2.1 := by decide +kernel
theorem tyX1_ok : ∀ k, k < 2 → parseFieldDescriptor (TX1 k).2.2.1 = some (tyX1 k) := by decide +kernel
abbrev cX1_init : ByteArray := prog_3_method_1_code
def yX1_init : MethodName := ⟨RX1, "<init>", "()V"⟩
abbrev cX1_content : ByteArray := prog_3_method_2_code
def yX1_content : MethodName := ⟨RX1, "content", "(LEntropyBounds$Contexts;II)J"⟩
abbrev cX1_cross : ByteArray := prog_3_method_3_code
def yX1_cross : MethodName := ⟨RX1, "cross", "(LEntropyBounds$Text;LEntropyBounds$Weights;II)J"⟩
abbrev cX1_growing : ByteArray := prog_3_method_4_code
def yX1_growing : MethodName := ⟨RX1, "growing", "(LEntropyBounds$Text;II)J"⟩
abbrev cX1_partInWhole : ByteArray := prog_3_method_5_code
def yX1_partInWhole : MethodName := ⟨RX1, "partInWhole", "(IIII)J"⟩
def RX2 : String := "EntropyBounds$Factors"
def TX2 : u_T := fun k => match k with
  | 0 => ("EntropyBounds$Pieces", "places", "[I", true)
  | 1 => ("EntropyBounds$Pieces", "sizes", "[I", true)
  | 2 => ("EntropyBounds$Pieces", "sources", "[I", true)
  | 3 => ("EntropyBounds$Pieces", "total", "I", false)
  | _ => ("EntropyBounds$Pieces", "seenChanges", "I", false)
def tyX2 : Nat → FieldType := fun k => match k with
  | 0 => .array .int
  | 1 => .array .int
  | 2 => .array .int
  | 3 => .int
  | _ => .int
abbrev wsX20 : List Cond := u_ws RX2 TX2 5
theorem nmX2 : ∀ a, a < 5 → ∀ b, b < 5 → a ≠ b → (TX2 a).2.1 ≠ (TX2 b).2.1 := by decide +kernel
theorem tyX2_ok : ∀ k, k < 5 → parseFieldDescriptor (TX2 k).2.2.1 = some (tyX2 k) := by decide +kernel
abbrev cX2_init : ByteArray := prog_4_method_1_code
def yX2_init : MethodName := ⟨RX2, "<init>", "()V"⟩
abbrev cX2_cut : ByteArray := prog_4_method_2_code
def yX2_cut : MethodName := ⟨RX2, "cut", "(LEntropyBounds$Text;)V"⟩
abbrev cX2_addFactor : ByteArray := prog_4_method_3_code
def yX2_addFactor : MethodName := ⟨RX2, "addFactor", "(LEntropyBounds$Text;I)V"⟩
abbrev cX2_commonRun : ByteArray := prog_4_method_4_code
def yX2_commonRun : MethodName := ⟨RX2, "commonRun", "(LEntropyBounds$Text;II)I"⟩
def RX3 : String := "EntropyBounds$Grammar"
def TX3 : u_T := fun k => match k with
  | 0 => ("EntropyBounds$Grammar", "pairs", "LEntropyBounds$Pairs;", true)
  | 1 => ("EntropyBounds$Grammar", "row", "[I", true)
  | 2 => ("EntropyBounds$Grammar", "firsts", "[I", true)
  | 3 => ("EntropyBounds$Grammar", "seconds", "[I", true)
  | 4 => ("EntropyBounds$Grammar", "rowSize", "I", false)
  | 5 => ("EntropyBounds$Grammar", "total", "I", false)
  | _ => ("EntropyBounds$Grammar", "seenChanges", "I", false)
def tyX3 : Nat → FieldType := fun k => match k with
  | 0 => .object "EntropyBounds$Pairs"
  | 1 => .array .int
  | 2 => .array .int
  | 3 => .array .int
  | 4 => .int
  | 5 => .int
  | _ => .int
abbrev wsX30 : List Cond := u_ws RX3 TX3 7
theorem nmX3 : ∀ a, a < 7 → ∀ b, b < 7 → a ≠ b → (TX3 a).2.1 ≠ (TX3 b).2.1 := by decide +kernel
theorem tyX3_ok : ∀ k, k < 7 → parseFieldDescriptor (TX3 k).2.2.1 = some (tyX3 k) := by decide +kernel
abbrev cX3_init : ByteArray := prog_5_method_1_code
def yX3_init : MethodName := ⟨RX3, "<init>", "()V"⟩
abbrev cX3_follow : ByteArray := prog_5_method_2_code
def yX3_follow : MethodName := ⟨RX3, "follow", "(LEntropyBounds$Text;)V"⟩
abbrev cX3_addRule : ByteArray := prog_5_method_3_code
def yX3_addRule : MethodName := ⟨RX3, "addRule", "()Z"⟩
abbrev cX3_replacePair : ByteArray := prog_5_method_4_code
def yX3_replacePair : MethodName := ⟨RX3, "replacePair", "(III)V"⟩
def RX4 : String := "EntropyBounds$Logs"
def TX4 : u_T := fun k => match k with
  | _ => ("EntropyBounds$Logs", "kept", "[I", true)
def tyX4 : Nat → FieldType := fun k => match k with
  | _ => .array .int
abbrev wsX40 : List Cond := u_ws RX4 TX4 1
theorem nmX4 : ∀ a, a < 1 → ∀ b, b < 1 → a ≠ b → (TX4 a).2.1 ≠ (TX4 b).2.1 := by decide +kernel
theorem tyX4_ok : ∀ k, k < 1 → parseFieldDescriptor (TX4 k).2.2.1 = some (tyX4 k) := by decide +kernel
abbrev cX4_init : ByteArray := prog_6_method_1_code
def yX4_init : MethodName := ⟨RX4, "<init>", "()V"⟩
abbrev cX4_end : ByteArray := prog_6_method_2_code
def yX4_end : MethodName := ⟨RX4, "end", "(III)J"⟩
abbrev cX4_greatestPower : ByteArray := prog_6_method_3_code
def yX4_greatestPower : MethodName := ⟨RX4, "greatestPower", "(I)I"⟩
abbrev cX4_fraction : ByteArray := prog_6_method_4_code
def yX4_fraction : MethodName := ⟨RX4, "fraction", "(III)I"⟩
abbrev cX4_fractionBits : ByteArray := prog_6_method_5_code
def yX4_fractionBits : MethodName := ⟨RX4, "fractionBits", "(III)I"⟩
def RX5 : String := "EntropyBounds$Pairs"
def TX5 : u_T := fun k => match k with
  | 0 => ("EntropyBounds$Pairs", "heads", "[I", true)
  | 1 => ("EntropyBounds$Pairs", "nexts", "[I", true)
  | 2 => ("EntropyBounds$Pairs", "firsts", "[I", true)
  | 3 => ("EntropyBounds$Pairs", "seconds", "[I", true)
  | 4 => ("EntropyBounds$Pairs", "counts", "[I", true)
  | 5 => ("EntropyBounds$Pairs", "lastPlaces", "[I", true)
  | _ => ("EntropyBounds$Pairs", "total", "I", false)
def tyX5 : Nat → FieldType := fun k => match k with
  | 0 => .array .int
  | 1 => .array .int
  | 2 => .array .int
  | 3 => .array .int
  | 4 => .array .int
  | 5 => .array .int
  | _ => .int
abbrev wsX50 : List Cond := u_ws RX5 TX5 7
theorem nmX5 : ∀ a, a < 7 → ∀ b, b < 7 → a ≠ b → (TX5 a).2.1 ≠ (TX5 b).2.1 := by decide +kernel
theorem tyX5_ok : ∀ k, k < 7 → parseFieldDescriptor (TX5 k).2.2.1 = some (tyX5 k) := by decide +kernel
abbrev cX5_init : ByteArray := prog_7_method_1_code
def yX5_init : MethodName := ⟨RX5, "<init>", "()V"⟩
abbrev cX5_tally : ByteArray := prog_7_method_2_code
def yX5_tally : MethodName := ⟨RX5, "tally", "([II)V"⟩
abbrev cX5_best : ByteArray := prog_7_method_3_code
def yX5_best : MethodName := ⟨RX5, "best", "()I"⟩
abbrev cX5_goesBefore : ByteArray := prog_7_method_4_code
def yX5_goesBefore : MethodName := ⟨RX5, "goesBefore", "(II)Z"⟩
abbrev cX5_pairOf : ByteArray := prog_7_method_5_code
def yX5_pairOf : MethodName := ⟨RX5, "pairOf", "(II)I"⟩
def RX6 : String := "EntropyBounds$Phrases"
def TX6 : u_T := fun k => match k with
  | 0 => ("EntropyBounds$Pieces", "places", "[I", true)
  | 1 => ("EntropyBounds$Pieces", "sizes", "[I", true)
  | 2 => ("EntropyBounds$Pieces", "sources", "[I", true)
  | 3 => ("EntropyBounds$Pieces", "total", "I", false)
  | _ => ("EntropyBounds$Pieces", "seenChanges", "I", false)
def tyX6 : Nat → FieldType := fun k => match k with
  | 0 => .array .int
  | 1 => .array .int
  | 2 => .array .int
  | 3 => .int
  | _ => .int
abbrev wsX60 : List Cond := u_ws RX6 TX6 5
theorem nmX6 : ∀ a, a < 5 → ∀ b, b < 5 → a ≠ b → (TX6 a).2.1 ≠ (TX6 b).2.1 := by decide +kernel
theorem tyX6_ok : ∀ k, k < 5 → parseFieldDescriptor (TX6 k).2.2.1 = some (tyX6 k) := by decide +kernel
abbrev cX6_init : ByteArray := prog_8_method_1_code
def yX6_init : MethodName := ⟨RX6, "<init>", "()V"⟩
abbrev cX6_cut : ByteArray := prog_8_method_2_code
def yX6_cut : MethodName := ⟨RX6, "cut", "(LEntropyBounds$Text;)V"⟩
abbrev cX6_findPhrase : ByteArray := prog_8_method_3_code
def yX6_findPhrase : MethodName := ⟨RX6, "findPhrase", "(LEntropyBounds$Text;II)I"⟩
def RX7 : String := "EntropyBounds$Pieces"
def TX7 : u_T := fun k => match k with
  | _ => ("", "", "", false)
def tyX7 : Nat → FieldType := fun k => match k with
  | _ => .int
abbrev wsX70 : List Cond := u_ws RX7 TX7 0
theorem nmX7 : ∀ a, a < 0 → ∀ b, b < 0 → a ≠ b → (TX7 a).2.1 ≠ (TX7 b).2.1 := by decide +kernel
theorem tyX7_ok : ∀ k, k < 0 → parseFieldDescriptor (TX7 k).2.2.1 = some (tyX7 k) := by decide +kernel
abbrev cX7_init : ByteArray := prog_9_method_1_code
def yX7_init : MethodName := ⟨RX7, "<init>", "()V"⟩
abbrev cX7_follow : ByteArray := prog_9_method_2_code
def yX7_follow : MethodName := ⟨RX7, "follow", "(LEntropyBounds$Text;)V"⟩
abbrev cX7_add : ByteArray := prog_9_method_4_code
def yX7_add : MethodName := ⟨RX7, "add", "(III)V"⟩
def RX8 : String := "EntropyBounds$Text"
def TX8 : u_T := fun k => match k with
  | 0 => ("EntropyBounds$Text", "signs", "[I", true)
  | 1 => ("EntropyBounds$Text", "totals", "[I", true)
  | 2 => ("EntropyBounds$Text", "size", "I", false)
  | _ => ("EntropyBounds$Text", "changes", "I", false)
def tyX8 : Nat → FieldType := fun k => match k with
  | 0 => .array .int
  | 1 => .array .int
  | 2 => .int
  | _ => .int
abbrev wsX80 : List Cond := u_ws RX8 TX8 4
theorem nmX8 : ∀ a, a < 4 → ∀ b, b < 4 → a ≠ b → (TX8 a).2.1 ≠ (TX8 b).2.1 := by decide +kernel
theorem tyX8_ok : ∀ k, k < 4 → parseFieldDescriptor (TX8 k).2.2.1 = some (tyX8 k) := by decide +kernel
abbrev cX8_init : ByteArray := prog_10_method_1_code
def yX8_init : MethodName := ⟨RX8, "<init>", "()V"⟩
abbrev cX8_append : ByteArray := prog_10_method_2_code
def yX8_append : MethodName := ⟨RX8, "append", "(I)V"⟩
abbrev cX8_clear : ByteArray := prog_10_method_3_code
def yX8_clear : MethodName := ⟨RX8, "clear", "()V"⟩
def RX9 : String := "EntropyBounds$Weights"
def TX9 : u_T := fun k => match k with
  | 0 => ("EntropyBounds$Weights", "of", "[I", true)
  | _ => ("EntropyBounds$Weights", "sum", "I", false)
def tyX9 : Nat → FieldType := fun k => match k with
  | 0 => .array .int
  | _ => .int
abbrev wsX90 : List Cond := u_ws RX9 TX9 2
theorem nmX9 : ∀ a, a < 2 → ∀ b, b < 2 → a ≠ b → (TX9 a).2.1 ≠ (TX9 b).2.1 := by decide +kernel
theorem tyX9_ok : ∀ k, k < 2 → parseFieldDescriptor (TX9 k).2.2.1 = some (tyX9 k) := by decide +kernel
abbrev cX9_init : ByteArray := prog_11_method_1_code
def yX9_init : MethodName := ⟨RX9, "<init>", "()V"⟩
abbrev cX9_replace : ByteArray := prog_11_method_2_code
def yX9_replace : MethodName := ⟨RX9, "replace", "(II)I"⟩
abbrev cX9_cover : ByteArray := prog_11_method_3_code
def yX9_cover : MethodName := ⟨RX9, "cover", "(LEntropyBounds$Text;)Z"⟩
def RX10 : String := "EntropyBounds$Words"
def TX10 : u_T := fun k => match k with
  | 0 => ("EntropyBounds$Words", "widths", "[I", true)
  | 1 => ("EntropyBounds$Words", "treeNumbers", "[I", true)
  | 2 => ("EntropyBounds$Words", "treeOfSign", "[I", true)
  | 3 => ("EntropyBounds$Words", "trees", "I", false)
  | _ => ("EntropyBounds$Words", "seenChanges", "I", false)
def tyX10 : Nat → FieldType := fun k => match k with
  | 0 => .array .int
  | 1 => .array .int
  | 2 => .array .int
  | 3 => .int
  | _ => .int
abbrev wsX100 : List Cond := u_ws RX10 TX10 5
theorem nmX10 : ∀ a, a < 5 → ∀ b, b < 5 → a ≠ b → (TX10 a).2.1 ≠ (TX10 b).2.1 := by decide +kernel
theorem tyX10_ok : ∀ k, k < 5 → parseFieldDescriptor (TX10 k).2.2.1 = some (tyX10 k) := by decide +kernel
abbrev cX10_init : ByteArray := prog_12_method_1_code
def yX10_init : MethodName := ⟨RX10, "<init>", "()V"⟩
abbrev cX10_follow : ByteArray := prog_12_method_2_code
def yX10_follow : MethodName := ⟨RX10, "follow", "(LEntropyBounds$Text;)V"⟩
abbrev cX10_stepWidth : ByteArray := prog_12_method_3_code
def yX10_stepWidth : MethodName := ⟨RX10, "stepWidth", "(II)I"⟩
abbrev cX10_plantTrees : ByteArray := prog_12_method_4_code
def yX10_plantTrees : MethodName := ⟨RX10, "plantTrees", "(LEntropyBounds$Text;)V"⟩
abbrev cX10_joinTwoTrees : ByteArray := prog_12_method_5_code
def yX10_joinTwoTrees : MethodName := ⟨RX10, "joinTwoTrees", "()V"⟩
abbrev cX10_takeLeastTree : ByteArray := prog_12_method_6_code
def yX10_takeLeastTree : MethodName := ⟨RX10, "takeLeastTree", "()I"⟩
abbrev cX10_widenTree : ByteArray := prog_12_method_7_code
def yX10_widenTree : MethodName := ⟨RX10, "widenTree", "(I)V"⟩
def RX11 : String := "EntropyBounds"
def TX11 : u_T := fun k => match k with
  | 0 => ("EntropyBounds", "text", "LEntropyBounds$Text;", true)
  | 1 => ("EntropyBounds", "weights", "LEntropyBounds$Weights;", true)
  | 2 => ("EntropyBounds", "contexts", "LEntropyBounds$Contexts;", true)
  | 3 => ("EntropyBounds", "costs", "LEntropyBounds$Costs;", true)
  | 4 => ("EntropyBounds", "words", "LEntropyBounds$Words;", true)
  | 5 => ("EntropyBounds", "factors", "LEntropyBounds$Factors;", true)
  | 6 => ("EntropyBounds", "phrases", "LEntropyBounds$Phrases;", true)
  | _ => ("EntropyBounds", "rules", "LEntropyBounds$Grammar;", true)
def tyX11 : Nat → FieldType := fun k => match k with
  | 0 => .object "EntropyBounds$Text"
  | 1 => .object "EntropyBounds$Weights"
  | 2 => .object "EntropyBounds$Contexts"
  | 3 => .object "EntropyBounds$Costs"
  | 4 => .object "EntropyBounds$Words"
  | 5 => .object "EntropyBounds$Factors"
  | 6 => .object "EntropyBounds$Phrases"
  | _ => .object "EntropyBounds$Grammar"
abbrev wsX110 : List Cond := u_ws RX11 TX11 8
theorem nmX11 : ∀ a, a < 8 → ∀ b, b < 8 → a ≠ b → (TX11 a).2.1 ≠ (TX11 b).2.1 := by decide +kernel
theorem tyX11_ok : ∀ k, k < 8 → parseFieldDescriptor (TX11 k).2.2.1 = some (tyX11 k) := by decide +kernel
abbrev cX11_init : ByteArray := prog_1_method_1_code
def yX11_init : MethodName := ⟨RX11, "<init>", "()V"⟩
abbrev cX11_sign : ByteArray := prog_1_method_2_code
def yX11_sign : MethodName := ⟨RX11, "sign", "(I)I"⟩
abbrev cX11_wipe : ByteArray := prog_1_method_3_code
def yX11_wipe : MethodName := ⟨RX11, "wipe", "()I"⟩
abbrev cX11_order : ByteArray := prog_1_method_4_code
def yX11_order : MethodName := ⟨RX11, "order", "(I)I"⟩
abbrev cX11_context : ByteArray := prog_1_method_5_code
def yX11_context : MethodName := ⟨RX11, "context", "(II)I"⟩
abbrev cX11_count : ByteArray := prog_1_method_6_code
def yX11_count : MethodName := ⟨RX11, "count", "(II)I"⟩
abbrev cX11_log : ByteArray := prog_1_method_7_code
def yX11_log : MethodName := ⟨RX11, "log", "(III)J"⟩
abbrev cX11_weight : ByteArray := prog_1_method_8_code
def yX11_weight : MethodName := ⟨RX11, "weight", "(II)I"⟩
abbrev cX11_share : ByteArray := prog_1_method_9_code
def yX11_share : MethodName := ⟨RX11, "share", "(I)J"⟩
abbrev cX11_cost : ByteArray := prog_1_method_10_code
def yX11_cost : MethodName := ⟨RX11, "cost", "(III)J"⟩
abbrev cX11_digits : ByteArray := prog_1_method_11_code
def yX11_digits : MethodName := ⟨RX11, "digits", "(II)I"⟩
abbrev cX11_width : ByteArray := prog_1_method_12_code
def yX11_width : MethodName := ⟨RX11, "width", "(II)I"⟩
abbrev cX11_bits : ByteArray := prog_1_method_13_code
def yX11_bits : MethodName := ⟨RX11, "bits", "(I)I"⟩
abbrev cX11_pieces : ByteArray := prog_1_method_14_code
def yX11_pieces : MethodName := ⟨RX11, "pieces", "(I)I"⟩
abbrev cX11_piece : ByteArray := prog_1_method_15_code
def yX11_piece : MethodName := ⟨RX11, "piece", "(III)I"⟩
abbrev cX11_grammar : ByteArray := prog_1_method_16_code
def yX11_grammar : MethodName := ⟨RX11, "grammar", "(I)I"⟩
abbrev cX11_rule : ByteArray := prog_1_method_17_code
def yX11_rule : MethodName := ⟨RX11, "rule", "(II)I"⟩
abbrev cX11_symbol : ByteArray := prog_1_method_18_code
def yX11_symbol : MethodName := ⟨RX11, "symbol", "(I)I"⟩
abbrev cX11_length : ByteArray := prog_1_method_19_code
def yX11_length : MethodName := ⟨RX11, "length", "()I"⟩
abbrev cX11_within : ByteArray := prog_1_method_20_code
def yX11_within : MethodName := ⟨RX11, "within", "(III)Z"⟩
abbrev cX11_isSign : ByteArray := prog_1_method_21_code
def yX11_isSign : MethodName := ⟨RX11, "isSign", "(I)Z"⟩
abbrev cX11_isSide : ByteArray := prog_1_method_22_code
def yX11_isSide : MethodName := ⟨RX11, "isSide", "(I)Z"⟩
abbrev cX11_isCostKind : ByteArray := prog_1_method_23_code
def yX11_isCostKind : MethodName := ⟨RX11, "isCostKind", "(I)Z"⟩
abbrev cX11_costOfKind : ByteArray := prog_1_method_24_code
def yX11_costOfKind : MethodName := ⟨RX11, "costOfKind", "(III)J"⟩
abbrev cX11_widthOfKind : ByteArray := prog_1_method_25_code
def yX11_widthOfKind : MethodName := ⟨RX11, "widthOfKind", "(II)I"⟩
abbrev cX11_cutPieces : ByteArray := prog_1_method_26_code
def yX11_cutPieces : MethodName := ⟨RX11, "cutPieces", "(I)LEntropyBounds$Pieces;"⟩
def RX12 : String := "EntropyBoundsModel"
def TX12 : u_T := fun k => match k with
  | 0 => ("EntropyBoundsModel", "code", "I", false)
  | 1 => ("EntropyBoundsModel", "length", "I", false)
  | 2 => ("EntropyBoundsModel", "text", "[I", true)
  | 3 => ("EntropyBoundsModel", "k", "I", false)
  | 4 => ("EntropyBoundsModel", "weight", "[I", true)
  | 5 => ("EntropyBoundsModel", "contexts", "I", false)
  | 6 => ("EntropyBoundsModel", "firstPlace", "[I", true)
  | 7 => ("EntropyBoundsModel", "counts", "[I", true)
  | 8 => ("EntropyBoundsModel", "all", "[I", true)
  | 9 => ("EntropyBoundsModel", "trees", "I", false)
  | 10 => ("EntropyBoundsModel", "treeNumber", "[I", true)
  | 11 => ("EntropyBoundsModel", "treeSigns", "[I", true)
  | 12 => ("EntropyBoundsModel", "wide", "[I", true)
  | 13 => ("EntropyBoundsModel", "takenNumber", "I", false)
  | 14 => ("EntropyBoundsModel", "pieces", "I", false)
  | 15 => ("EntropyBoundsModel", "piecePlace", "[I", true)
  | 16 => ("EntropyBoundsModel", "pieceLength", "[I", true)
  | 17 => ("EntropyBoundsModel", "pieceOther", "[I", true)
  | 18 => ("EntropyBoundsModel", "rowLength", "I", false)
  | 19 => ("EntropyBoundsModel", "row", "[I", true)
  | 20 => ("EntropyBoundsModel", "rules", "I", false)
  | 21 => ("EntropyBoundsModel", "ruleFirst", "[I", true)
  | 22 => ("EntropyBoundsModel", "ruleSecond", "[I", true)
  | 23 => ("EntropyBoundsModel", "madeLength", "I", false)
  | _ => ("EntropyBoundsModel", "madeOf", "[I", true)
def tyX12 : Nat → FieldType := fun k => match k with
  | 0 => .int
  | 1 => .int
  | 2 => .array .int
  | 3 => .int
  | 4 => .array .int
  | 5 => .int
  | 6 => .array .int
  | 7 => .array .int
  | 8 => .array .int
  | 9 => .int
  | 10 => .array .int
  | 11 => .array .int
  | 12 => .array .int
  | 13 => .int
  | 14 => .int
  | 15 => .array .int
  | 16 => .array .int
  | 17 => .array .int
  | 18 => .int
  | 19 => .array .int
  | 20 => .int
  | 21 => .array .int
  | 22 => .array .int
  | 23 => .int
  | _ => .array .int
abbrev wsX120 : List Cond := u_ws RX12 TX12 25
theorem nmX12 : ∀ a, a < 25 → ∀ b, b < 25 → a ≠ b → (TX12 a).2.1 ≠ (TX12 b).2.1 := by decide +kernel
theorem tyX12_ok : ∀ k, k < 25 → parseFieldDescriptor (TX12 k).2.2.1 = some (tyX12 k) := by decide +kernel
abbrev cX12_init : ByteArray := prog_14_method_1_code
def yX12_init : MethodName := ⟨RX12, "<init>", "()V"⟩
abbrev cX12_thrown : ByteArray := prog_14_method_2_code
def yX12_thrown : MethodName := ⟨RX12, "thrown", "()I"⟩
abbrev cX12_in : ByteArray := prog_14_method_3_code
def yX12_in : MethodName := ⟨RX12, "in", "(JJJ)Z"⟩
abbrev cX12_isSign : ByteArray := prog_14_method_4_code
def yX12_isSign : MethodName := ⟨RX12, "isSign", "(I)Z"⟩
abbrev cX12_isKind : ByteArray := prog_14_method_5_code
def yX12_isKind : MethodName := ⟨RX12, "isKind", "(I)Z"⟩
abbrev cX12_sign : ByteArray := prog_14_method_6_code
def yX12_sign : MethodName := ⟨RX12, "sign", "(I)I"⟩
abbrev cX12_wipe : ByteArray := prog_14_method_7_code
def yX12_wipe : MethodName := ⟨RX12, "wipe", "()I"⟩
abbrev cX12_length : ByteArray := prog_14_method_8_code
def yX12_length : MethodName := ⟨RX12, "length", "()I"⟩
abbrev cX12_isSameAhead : ByteArray := prog_14_method_9_code
def yX12_isSameAhead : MethodName := ⟨RX12, "isSameAhead", "(II)Z"⟩
abbrev cX12_findContexts : ByteArray := prog_14_method_10_code
def yX12_findContexts : MethodName := ⟨RX12, "findContexts", "()V"⟩
abbrev cX12_order : ByteArray := prog_14_method_11_code
def yX12_order : MethodName := ⟨RX12, "order", "(I)I"⟩
abbrev cX12_context : ByteArray := prog_14_method_12_code
def yX12_context : MethodName := ⟨RX12, "context", "(II)I"⟩
abbrev cX12_count : ByteArray := prog_14_method_13_code
def yX12_count : MethodName := ⟨RX12, "count", "(II)I"⟩
abbrev cX12_powerOf : ByteArray := prog_14_method_14_code
def yX12_powerOf : MethodName := ⟨RX12, "powerOf", "(I)I"⟩
abbrev cX12_lowLog : ByteArray := prog_14_method_15_code
def yX12_lowLog : MethodName := ⟨RX12, "lowLog", "(II)J"⟩
abbrev cX12_highLog : ByteArray := prog_14_method_16_code
def yX12_highLog : MethodName := ⟨RX12, "highLog", "(II)J"⟩
abbrev cX12_log : ByteArray := prog_14_method_17_code
def yX12_log : MethodName := ⟨RX12, "log", "(III)J"⟩
abbrev cX12_weight : ByteArray := prog_14_method_18_code
def yX12_weight : MethodName := ⟨RX12, "weight", "(II)I"⟩
abbrev cX12_sumOfWeights : ByteArray := prog_14_method_19_code
def yX12_sumOfWeights : MethodName := ⟨RX12, "sumOfWeights", "()I"⟩
abbrev cX12_share : ByteArray := prog_14_method_20_code
def yX12_share : MethodName := ⟨RX12, "share", "(I)J"⟩
abbrev cX12_costOf : ByteArray := prog_14_method_21_code
def yX12_costOf : MethodName := ⟨RX12, "costOf", "(IIII)J"⟩
abbrev cX12_content : ByteArray := prog_14_method_22_code
def yX12_content : MethodName := ⟨RX12, "content", "(II)J"⟩
abbrev cX12_often : ByteArray := prog_14_method_23_code
def yX12_often : MethodName := ⟨RX12, "often", "(II)I"⟩
abbrev cX12_cross : ByteArray := prog_14_method_24_code
def yX12_cross : MethodName := ⟨RX12, "cross", "(II)J"⟩
abbrev cX12_growing : ByteArray := prog_14_method_25_code
def yX12_growing : MethodName := ⟨RX12, "growing", "(II)J"⟩
abbrev cX12_costBy : ByteArray := prog_14_method_26_code
def yX12_costBy : MethodName := ⟨RX12, "costBy", "(III)J"⟩
abbrev cX12_cost : ByteArray := prog_14_method_27_code
def yX12_cost : MethodName := ⟨RX12, "cost", "(III)J"⟩
abbrev cX12_digits : ByteArray := prog_14_method_28_code
def yX12_digits : MethodName := ⟨RX12, "digits", "(II)I"⟩
abbrev cX12_takeLeast : ByteArray := prog_14_method_29_code
def yX12_takeLeast : MethodName := ⟨RX12, "takeLeast", "()I"⟩
abbrev cX12_findWords : ByteArray := prog_14_method_30_code
def yX12_findWords : MethodName := ⟨RX12, "findWords", "()V"⟩
abbrev cX12_stepWidth : ByteArray := prog_14_method_31_code
def yX12_stepWidth : MethodName := ⟨RX12, "stepWidth", "(I)I"⟩
abbrev cX12_width : ByteArray := prog_14_method_32_code
def yX12_width : MethodName := ⟨RX12, "width", "(II)I"⟩
abbrev cX12_bits : ByteArray := prog_14_method_33_code
def yX12_bits : MethodName := ⟨RX12, "bits", "(I)I"⟩
abbrev cX12_alike : ByteArray := prog_14_method_34_code
def yX12_alike : MethodName := ⟨RX12, "alike", "(II)I"⟩
abbrev cX12_put : ByteArray := prog_14_method_35_code
def yX12_put : MethodName := ⟨RX12, "put", "(III)V"⟩
abbrev cX12_findFactors : ByteArray := prog_14_method_36_code
def yX12_findFactors : MethodName := ⟨RX12, "findFactors", "()V"⟩
abbrev cX12_phraseOf : ByteArray := prog_14_method_37_code
def yX12_phraseOf : MethodName := ⟨RX12, "phraseOf", "(II)I"⟩
abbrev cX12_findPhrases : ByteArray := prog_14_method_38_code
def yX12_findPhrases : MethodName := ⟨RX12, "findPhrases", "()V"⟩
abbrev cX12_findPieces : ByteArray := prog_14_method_39_code
def yX12_findPieces : MethodName := ⟨RX12, "findPieces", "(I)V"⟩
abbrev cX12_pieces : ByteArray := prog_14_method_40_code
def yX12_pieces : MethodName := ⟨RX12, "pieces", "(I)I"⟩
abbrev cX12_piece : ByteArray := prog_14_method_41_code
def yX12_piece : MethodName := ⟨RX12, "piece", "(III)I"⟩
abbrev cX12_isMade : ByteArray := prog_14_method_42_code
def yX12_isMade : MethodName := ⟨RX12, "isMade", "()Z"⟩
abbrev cX12_countPair : ByteArray := prog_14_method_43_code
def yX12_countPair : MethodName := ⟨RX12, "countPair", "(II)I"⟩
abbrev cX12_bestPair : ByteArray := prog_14_method_44_code
def yX12_bestPair : MethodName := ⟨RX12, "bestPair", "()I"⟩
abbrev cX12_makeGrammar : ByteArray := prog_14_method_45_code
def yX12_makeGrammar : MethodName := ⟨RX12, "makeGrammar", "()V"⟩
abbrev cX12_grammar : ByteArray := prog_14_method_46_code
def yX12_grammar : MethodName := ⟨RX12, "grammar", "(I)I"⟩
abbrev cX12_rule : ByteArray := prog_14_method_47_code
def yX12_rule : MethodName := ⟨RX12, "rule", "(II)I"⟩
abbrev cX12_symbol : ByteArray := prog_14_method_48_code
def yX12_symbol : MethodName := ⟨RX12, "symbol", "(I)I"⟩
def RJx00060 : String := "java/lang/ArrayIndexOutOfBoundsException"
def TJx00060 : u_T := fun k => match k with
  | 0 => ("java/lang/Throwable", "backtrace", "Ljava/lang/Object;", false)
  | 1 => ("java/lang/Throwable", "detailMessage", "Ljava/lang/String;", false)
  | 2 => ("java/lang/Throwable", "cause", "Ljava/lang/Throwable;", false)
  | 3 => ("java/lang/Throwable", "stackTrace", "[Ljava/lang/StackTraceElement;", false)
  | 4 => ("java/lang/Throwable", "depth", "I", false)
  | _ => ("java/lang/Throwable", "suppressedExceptions", "Ljava/util/List;", false)
def tyJx00060 : Nat → FieldType := fun k => match k with
  | 0 => .object "java/lang/Object"
  | 1 => .object "java/lang/String"
  | 2 => .object "java/lang/Throwable"
  | 3 => .array (.object "java/lang/StackTraceElement")
  | 4 => .int
  | _ => .object "java/util/List"
abbrev wsJx000600 : List Cond := u_ws RJx00060 TJx00060 6
theorem nmJx00060 : ∀ a, a < 6 → ∀ b, b < 6 → a ≠ b → (TJx00060 a).2.1 ≠ (TJx00060 b).2.1 := by decide +kernel
theorem tyJx00060_ok : ∀ k, k < 6 → parseFieldDescriptor (TJx00060 k).2.2.1 = some (tyJx00060 k) := by decide +kernel
abbrev cJx00060_init_a7421 : ByteArray := prog_16_method_2_code
def yJx00060_init_a7421 : MethodName := ⟨RJx00060, "<init>", "(Ljava/lang/String;)V"⟩
def RJ9 : String := "java/lang/Math"
def TJ9 : u_T := fun k => match k with
  | _ => ("", "", "", false)
def tyJ9 : Nat → FieldType := fun k => match k with
  | _ => .int
abbrev wsJ90 : List Cond := u_ws RJ9 TJ9 0
theorem nmJ9 : ∀ a, a < 0 → ∀ b, b < 0 → a ≠ b → (TJ9 a).2.1 ≠ (TJ9 b).2.1 := by decide +kernel
theorem tyJ9_ok : ∀ k, k < 0 → parseFieldDescriptor (TJ9 k).2.2.1 = some (tyJ9 k) := by decide +kernel
abbrev cJ9_max_7cf53 : ByteArray := prog_19_method_65_code
def yJ9_max_7cf53 : MethodName := ⟨RJ9, "max", "(II)I"⟩
abbrev cJ9_max_f86c9 : ByteArray := prog_19_method_66_code
def yJ9_max_f86c9 : MethodName := ⟨RJ9, "max", "(JJ)J"⟩
def RJ0 : String := "java/lang/String"
def TJ0 : u_T := fun k => match k with
  | 0 => ("java/lang/String", "value", "[B", true)
  | _ => ("java/lang/String", "coder", "B", true)
def tyJ0 : Nat → FieldType := fun k => match k with
  | 0 => .array .byte
  | _ => .byte
abbrev wsJ00 : List Cond := u_ws RJ0 TJ0 2
theorem nmJ0 : ∀ a, a < 2 → ∀ b, b < 2 → a ≠ b → (TJ0 a).2.1 ≠ (TJ0 b).2.1 := by decide +kernel
theorem tyJ0_ok : ∀ k, k < 2 → parseFieldDescriptor (TJ0 k).2.2.1 = some (tyJ0 k) := by decide +kernel
def RJ10 : String := "java/lang/System"
def TJ10 : u_T := fun k => match k with
  | _ => ("", "", "", false)
def tyJ10 : Nat → FieldType := fun k => match k with
  | _ => .int
abbrev wsJ100 : List Cond := u_ws RJ10 TJ10 0
theorem nmJ10 : ∀ a, a < 0 → ∀ b, b < 0 → a ≠ b → (TJ10 a).2.1 ≠ (TJ10 b).2.1 := by decide +kernel
theorem tyJ10_ok : ∀ k, k < 0 → parseFieldDescriptor (TJ10 k).2.2.1 = some (tyJ10 k) := by decide +kernel
def RJ7 : String := "java/util/Arrays"
def TJ7 : u_T := fun k => match k with
  | _ => ("", "", "", false)
def tyJ7 : Nat → FieldType := fun k => match k with
  | _ => .int
abbrev wsJ70 : List Cond := u_ws RJ7 TJ7 0
theorem nmJ7 : ∀ a, a < 0 → ∀ b, b < 0 → a ≠ b → (TJ7 a).2.1 ≠ (TJ7 b).2.1 := by decide +kernel
theorem tyJ7_ok : ∀ k, k < 0 → parseFieldDescriptor (TJ7 k).2.2.1 = some (tyJ7 k) := by decide +kernel
abbrev cJ7_fill_53178 : ByteArray := prog_24_method_103_code
def yJ7_fill_53178 : MethodName := ⟨RJ7, "fill", "([II)V"⟩
def RL : String := "EntropyBoundsLaw"
abbrev cL_share : ByteArray := method_3_code
def yL_share : MethodName := ⟨RL, "share", "(LEntropyBounds;I[J)I"⟩
abbrev cL_symbol : ByteArray := method_4_code
def yL_symbol : MethodName := ⟨RL, "symbol", "(LEntropyBounds;I[J)I"⟩
abbrev cL_law : ByteArray := code
def yL_law : MethodName := ⟨RL, "law", "([I)Z"⟩
abbrev vwCl : List vw_C := [(RJ0, TJ0, 2), (RJx00060, TJx00060, 6), (RX0, TX0, 9), (RX1, TX1, 2), (RX2, TX2, 5), (RX3, TX3, 7), (RX4, TX4, 1), (RX5, TX5, 7), (RX6, TX6, 5), (RX8, TX8, 4), (RX9, TX9, 2), (RX10, TX10, 5), (RX11, TX11, 8), (RX12, TX12, 25)]
end
section
theorem dX0_init_0 : decode cX0_init 0 = .ok (.aload_n 0, 1) := by decide +kernel
theorem dX0_init_1 : decode cX0_init 1 = .ok (.invokespecial 3, 3) := by decide +kernel
theorem dX0_init_4 : decode cX0_init 4 = .ok (.aload_n 0, 1) := by decide +kernel
theorem dX0_init_5 : decode cX0_init 5 = .ok (.sipush 400, 3) := by decide +kernel
theorem dX0_init_8 : decode cX0_init 8 = .ok (.newarray .int, 2) := by decide +kernel
theorem dX0_init_10 : decode cX0_init 10 = .ok (.putfield 9, 3) := by decide +kernel
theorem dX0_init_13 : decode cX0_init 13 = .ok (.aload_n 0, 1) := by decide +kernel
theorem dX0_init_14 : decode cX0_init 14 = .ok (.sipush 400, 3) := by decide +kernel
theorem dX0_init_17 : decode cX0_init 17 = .ok (.newarray .int, 2) := by decide +kernel
theorem dX0_init_19 : decode cX0_init 19 = .ok (.putfield 15, 3) := by decide +kernel
theorem dX0_init_22 : decode cX0_init 22 = .ok (.aload_n 0, 1) := by decide +kernel
theorem dX0_init_23 : decode cX0_init 23 = .ok (.sipush 400, 3) := by decide +kernel
theorem dX0_init_26 : decode cX0_init 26 = .ok (.newarray .int, 2) := by decide +kernel
theorem dX0_init_28 : decode cX0_init 28 = .ok (.putfield 18, 3) := by decide +kernel
theorem dX0_init_31 : decode cX0_init 31 = .ok (.aload_n 0, 1) := by decide +kernel
theorem dX0_init_32 : decode cX0_init 32 = .ok (.sipush 400, 3) := by decide +kernel
theorem dX0_init_35 : decode cX0_init 35 = .ok (.newarray .int, 2) := by decide +kernel
theorem dX0_init_37 : decode cX0_init 37 = .ok (.putfield 21, 3) := by decide +kernel
theorem dX0_init_40 : decode cX0_init 40 = .ok (.aload_n 0, 1) := by decide +kernel
theorem dX0_init_41 : decode cX0_init 41 = .ok (.sipush 400, 3) := by decide +kernel
theorem dX0_init_44 : decode cX0_init 44 = .ok (.newarray .int, 2) := by decide +kernel
theorem dX0_init_46 : decode cX0_init 46 = .ok (.putfield 24, 3) := by decide +kernel
theorem dX0_init_49 : decode cX0_init 49 = .ok (.return_, 1) := by decide +kernel
theorem dX0_setOrder_0 : decode cX0_setOrder 0 = .ok (.iload_n 1, 1) := by decide +kernel
theorem dX0_setOrder_1 : decode cX0_setOrder 1 = .ok (.aload_n 0, 1) := by decide +kernel
theorem dX0_setOrder_2 : decode cX0_setOrder 2 = .ok (.getfield 27, 3) := by decide +kernel
theorem dX0_setOrder_5 : decode cX0_setOrder 5 = .ok (.if_icmp .eq 13, 3) := by decide +kernel
theorem dX0_setOrder_8 : decode cX0_setOrder 8 = .ok (.aload_n 0, 1) := by decide +kernel
theorem dX0_setOrder_9 : decode cX0_setOrder 9 = .ok (.iload_n 1, 1) := by decide +kernel
theorem dX0_setOrder_10 : decode cX0_setOrder 10 = .ok (.putfield 27, 3) := by decide +kernel
theorem dX0_setOrder_13 : decode cX0_setOrder 13 = .ok (.aload_n 0, 1) := by decide +kernel
theorem dX0_setOrder_14 : decode cX0_setOrder 14 = .ok (.iconst (-1), 1) := by decide +kernel
theorem dX0_setOrder_15 : decode cX0_setOrder 15 = .ok (.putfield 31, 3) := by decide +kernel
theorem dX0_setOrder_18 : decode cX0_setOrder 18 = .ok (.return_, 1) := by decide +kernel
theorem dX0_follow_0 : decode cX0_follow 0 = .ok (.aload_n 0, 1) := by decide +kernel
theorem dX0_follow_1 : decode cX0_follow 1 = .ok (.getfield 31, 3) := by decide +kernel
theorem dX0_follow_4 : decode cX0_follow 4 = .ok (.aload_n 1, 1) := by decide +kernel
theorem dX0_follow_5 : decode cX0_follow 5 = .ok (.getfield 34, 3) := by decide +kernel
theorem dX0_follow_8 : decode cX0_follow 8 = .ok (.if_icmp .ne 4, 3) := by decide +kernel
theorem dX0_follow_11 : decode cX0_follow 11 = .ok (.return_, 1) := by decide +kernel
theorem dX0_follow_12 : decode cX0_follow 12 = .ok (.aload_n 0, 1) := by decide +kernel
theorem dX0_follow_13 : decode cX0_follow 13 = .ok (.aload_n 1, 1) := by decide +kernel
theorem dX0_follow_14 : decode cX0_follow 14 = .ok (.getfield 34, 3) := by decide +kernel
theorem dX0_follow_17 : decode cX0_follow 17 = .ok (.putfield 31, 3) := by decide +kernel
theorem dX0_follow_20 : decode cX0_follow 20 = .ok (.aload_n 0, 1) := by decide +kernel
theorem dX0_follow_21 : decode cX0_follow 21 = .ok (.iconst 0, 1) := by decide +kernel
theorem dX0_follow_22 : decode cX0_follow 22 = .ok (.putfield 39, 3) := by decide +kernel
theorem dX0_follow_25 : decode cX0_follow 25 = .ok (.aload_n 0, 1) := by decide +kernel
theorem dX0_follow_26 : decode cX0_follow 26 = .ok (.iconst 0, 1) := by decide +kernel
theorem dX0_follow_27 : decode cX0_follow 27 = .ok (.putfield 42, 3) := by decide +kernel
theorem dX0_follow_30 : decode cX0_follow 30 = .ok (.aload_n 0, 1) := by decide +kernel
theorem dX0_follow_31 : decode cX0_follow 31 = .ok (.getfield 27, 3) := by decide +kernel
theorem dX0_follow_34 : decode cX0_follow 34 = .ok (.istore_n 2, 1) := by decide +kernel
theorem dX0_follow_35 : decode cX0_follow 35 = .ok (.iload_n 2, 1) := by decide +kernel
theorem dX0_follow_36 : decode cX0_follow 36 = .ok (.aload_n 1, 1) := by decide +kernel
theorem dX0_follow_37 : decode cX0_follow 37 = .ok (.getfield 45, 3) := by decide +kernel
theorem dX0_follow_40 : decode cX0_follow 40 = .ok (.if_icmp .ge 50, 3) := by decide +kernel
theorem dX0_follow_43 : decode cX0_follow 43 = .ok (.aload_n 0, 1) := by decide +kernel
theorem dX0_follow_44 : decode cX0_follow 44 = .ok (.aload_n 0, 1) := by decide +kernel
theorem dX0_follow_45 : decode cX0_follow 45 = .ok (.aload_n 1, 1) := by decide +kernel
theorem dX0_follow_46 : decode cX0_follow 46 = .ok (.iload_n 2, 1) := by decide +kernel
theorem dX0_follow_47 : decode cX0_follow 47 = .ok (.invokevirtual 48, 3) := by decide +kernel
theorem dX0_follow_50 : decode cX0_follow 50 = .ok (.invokevirtual 52, 3) := by decide +kernel
theorem dX0_follow_53 : decode cX0_follow 53 = .ok (.istore_n 3, 1) := by decide +kernel
theorem dX0_follow_54 : decode cX0_follow 54 = .ok (.aload_n 0, 1) := by decide +kernel
theorem dX0_follow_55 : decode cX0_follow 55 = .ok (.getfield 15, 3) := by decide +kernel
theorem dX0_follow_58 : decode cX0_follow 58 = .ok (.iload_n 3, 1) := by decide +kernel
theorem dX0_follow_59 : decode cX0_follow 59 = .ok (.dup2, 1) := by decide +kernel
theorem dX0_follow_60 : decode cX0_follow 60 = .ok (.iaload, 1) := by decide +kernel
theorem dX0_follow_61 : decode cX0_follow 61 = .ok (.iconst 1, 1) := by decide +kernel
theorem dX0_follow_62 : decode cX0_follow 62 = .ok (.iadd, 1) := by decide +kernel
theorem dX0_follow_63 : decode cX0_follow 63 = .ok (.iastore, 1) := by decide +kernel
theorem dX0_follow_64 : decode cX0_follow 64 = .ok (.aload_n 0, 1) := by decide +kernel
theorem dX0_follow_65 : decode cX0_follow 65 = .ok (.getfield 24, 3) := by decide +kernel
theorem dX0_follow_68 : decode cX0_follow 68 = .ok (.aload_n 0, 1) := by decide +kernel
theorem dX0_follow_69 : decode cX0_follow 69 = .ok (.iload_n 3, 1) := by decide +kernel
theorem dX0_follow_70 : decode cX0_follow 70 = .ok (.aload_n 1, 1) := by decide +kernel
theorem dX0_follow_71 : decode cX0_follow 71 = .ok (.getfield 56, 3) := by decide +kernel
theorem dX0_follow_74 : decode cX0_follow 74 = .ok (.iload_n 2, 1) := by decide +kernel
theorem dX0_follow_75 : decode cX0_follow 75 = .ok (.iaload, 1) := by decide +kernel
theorem dX0_follow_76 : decode cX0_follow 76 = .ok (.invokevirtual 59, 3) := by decide +kernel
theorem dX0_follow_79 : decode cX0_follow 79 = .ok (.dup2, 1) := by decide +kernel
theorem dX0_follow_80 : decode cX0_follow 80 = .ok (.iaload, 1) := by decide +kernel
theorem dX0_follow_81 : decode cX0_follow 81 = .ok (.iconst 1, 1) := by decide +kernel
theorem dX0_follow_82 : decode cX0_follow 82 = .ok (.iadd, 1) := by decide +kernel
theorem dX0_follow_83 : decode cX0_follow 83 = .ok (.iastore, 1) := by decide +kernel
theorem dX0_follow_84 : decode cX0_follow 84 = .ok (.iinc 2 1, 3) := by decide +kernel
theorem dX0_follow_87 : decode cX0_follow 87 = .ok (.goto (-52), 3) := by decide +kernel
theorem dX0_follow_90 : decode cX0_follow 90 = .ok (.return_, 1) := by decide +kernel
theorem dX0_signOf_0 : decode cX0_signOf 0 = .ok (.aload_n 0, 1) := by decide +kernel
theorem dX0_signOf_1 : decode cX0_signOf 1 = .ok (.getfield 9, 3) := by decide +kernel
theorem dX0_signOf_4 : decode cX0_signOf 4 = .ok (.iload_n 1, 1) := by decide +kernel
theorem dX0_signOf_5 : decode cX0_signOf 5 = .ok (.iaload, 1) := by decide +kernel
theorem dX0_signOf_6 : decode cX0_signOf 6 = .ok (.iconst 4, 1) := by decide +kernel
theorem dX0_signOf_7 : decode cX0_signOf 7 = .ok (.aload_n 0, 1) := by decide +kernel
theorem dX0_signOf_8 : decode cX0_signOf 8 = .ok (.getfield 27, 3) := by decide +kernel
theorem dX0_signOf_11 : decode cX0_signOf 11 = .ok (.iconst 1, 1) := by decide +kernel
theorem dX0_signOf_12 : decode cX0_signOf 12 = .ok (.isub, 1) := by decide +kernel
theorem dX0_signOf_13 : decode cX0_signOf 13 = .ok (.iload_n 2, 1) := by decide +kernel
theorem dX0_signOf_14 : decode cX0_signOf 14 = .ok (.isub, 1) := by decide +kernel
theorem dX0_signOf_15 : decode cX0_signOf 15 = .ok (.imul, 1) := by decide +kernel
theorem dX0_signOf_16 : decode cX0_signOf 16 = .ok (.ishr, 1) := by decide +kernel
theorem dX0_signOf_17 : decode cX0_signOf 17 = .ok (.bipush 15, 2) := by decide +kernel
theorem dX0_signOf_19 : decode cX0_signOf 19 = .ok (.iand, 1) := by decide +kernel
theorem dX0_signOf_20 : decode cX0_signOf 20 = .ok (.ireturn, 1) := by decide +kernel
theorem dX0_countOf_0 : decode cX0_countOf 0 = .ok (.aload_n 0, 1) := by decide +kernel
theorem dX0_countOf_1 : decode cX0_countOf 1 = .ok (.iload_n 1, 1) := by decide +kernel
theorem dX0_countOf_2 : decode cX0_countOf 2 = .ok (.iload_n 2, 1) := by decide +kernel
theorem dX0_countOf_3 : decode cX0_countOf 3 = .ok (.invokevirtual 63, 3) := by decide +kernel
theorem dX0_countOf_6 : decode cX0_countOf 6 = .ok (.istore_n 3, 1) := by decide +kernel
theorem dX0_countOf_7 : decode cX0_countOf 7 = .ok (.iload_n 3, 1) := by decide +kernel
theorem dX0_countOf_8 : decode cX0_countOf 8 = .ok (.aload_n 0, 1) := by decide +kernel
theorem dX0_countOf_9 : decode cX0_countOf 9 = .ok (.getfield 42, 3) := by decide +kernel
theorem dX0_countOf_12 : decode cX0_countOf 12 = .ok (.if_icmp .ge 12, 3) := by decide +kernel
theorem dX0_countOf_15 : decode cX0_countOf 15 = .ok (.aload_n 0, 1) := by decide +kernel
theorem dX0_countOf_16 : decode cX0_countOf 16 = .ok (.getfield 24, 3) := by decide +kernel
theorem dX0_countOf_19 : decode cX0_countOf 19 = .ok (.iload_n 3, 1) := by decide +kernel
theorem dX0_countOf_20 : decode cX0_countOf 20 = .ok (.iaload, 1) := by decide +kernel
theorem dX0_countOf_21 : decode cX0_countOf 21 = .ok (.goto 4, 3) := by decide +kernel
theorem dX0_countOf_24 : decode cX0_countOf 24 = .ok (.iconst 0, 1) := by decide +kernel
theorem dX0_countOf_25 : decode cX0_countOf 25 = .ok (.ireturn, 1) := by decide +kernel
theorem dX0_codeBefore_0 : decode cX0_codeBefore 0 = .ok (.iconst 0, 1) := by decide +kernel
theorem dX0_codeBefore_1 : decode cX0_codeBefore 1 = .ok (.istore_n 3, 1) := by decide +kernel
theorem dX0_codeBefore_2 : decode cX0_codeBefore 2 = .ok (.iload_n 2, 1) := by decide +kernel
theorem dX0_codeBefore_3 : decode cX0_codeBefore 3 = .ok (.aload_n 0, 1) := by decide +kernel
theorem dX0_codeBefore_4 : decode cX0_codeBefore 4 = .ok (.getfield 27, 3) := by decide +kernel
theorem dX0_codeBefore_7 : decode cX0_codeBefore 7 = .ok (.isub, 1) := by decide +kernel
theorem dX0_codeBefore_8 : decode cX0_codeBefore 8 = .ok (.istore 4, 2) := by decide +kernel
theorem dX0_codeBefore_10 : decode cX0_codeBefore 10 = .ok (.iload 4, 2) := by decide +kernel
theorem dX0_codeBefore_12 : decode cX0_codeBefore 12 = .ok (.iload_n 2, 1) := by decide +kernel
theorem dX0_codeBefore_13 : decode cX0_codeBefore 13 = .ok (.if_icmp .ge 21, 3) := by decide +kernel
theorem dX0_codeBefore_16 : decode cX0_codeBefore 16 = .ok (.iload_n 3, 1) := by decide +kernel
theorem dX0_codeBefore_17 : decode cX0_codeBefore 17 = .ok (.iconst 4, 1) := by decide +kernel
theorem dX0_codeBefore_18 : decode cX0_codeBefore 18 = .ok (.ishl, 1) := by decide +kernel
theorem dX0_codeBefore_19 : decode cX0_codeBefore 19 = .ok (.aload_n 1, 1) := by decide +kernel
theorem dX0_codeBefore_20 : decode cX0_codeBefore 20 = .ok (.getfield 56, 3) := by decide +kernel
theorem dX0_codeBefore_23 : decode cX0_codeBefore 23 = .ok (.iload 4, 2) := by decide +kernel
theorem dX0_codeBefore_25 : decode cX0_codeBefore 25 = .ok (.iaload, 1) := by decide +kernel
theorem dX0_codeBefore_26 : decode cX0_codeBefore 26 = .ok (.ior, 1) := by decide +kernel
theorem dX0_codeBefore_27 : decode cX0_codeBefore 27 = .ok (.istore_n 3, 1) := by decide +kernel
theorem dX0_codeBefore_28 : decode cX0_codeBefore 28 = .ok (.iinc 4 1, 3) := by decide +kernel
theorem dX0_codeBefore_31 : decode cX0_codeBefore 31 = .ok (.goto (-21), 3) := by decide +kernel
theorem dX0_codeBefore_34 : decode cX0_codeBefore 34 = .ok (.iload_n 3, 1) := by decide +kernel
theorem dX0_codeBefore_35 : decode cX0_codeBefore 35 = .ok (.ireturn, 1) := by decide +kernel
theorem dX0_numberOf_0 : decode cX0_numberOf 0 = .ok (.iconst 0, 1) := by decide +kernel
theorem dX0_numberOf_1 : decode cX0_numberOf 1 = .ok (.istore_n 2, 1) := by decide +kernel
theorem dX0_numberOf_2 : decode cX0_numberOf 2 = .ok (.iload_n 2, 1) := by decide +kernel
theorem dX0_numberOf_3 : decode cX0_numberOf 3 = .ok (.aload_n 0, 1) := by decide +kernel
theorem dX0_numberOf_4 : decode cX0_numberOf 4 = .ok (.getfield 39, 3) := by decide +kernel
theorem dX0_numberOf_7 : decode cX0_numberOf 7 = .ok (.if_icmp .ge 21, 3) := by decide +kernel
theorem dX0_numberOf_10 : decode cX0_numberOf 10 = .ok (.aload_n 0, 1) := by decide +kernel
theorem dX0_numberOf_11 : decode cX0_numberOf 11 = .ok (.getfield 9, 3) := by decide +kernel
theorem dX0_numberOf_14 : decode cX0_numberOf 14 = .ok (.iload_n 2, 1) := by decide +kernel
theorem dX0_numberOf_15 : decode cX0_numberOf 15 = .ok (.iaload, 1) := by decide +kernel
theorem dX0_numberOf_16 : decode cX0_numberOf 16 = .ok (.iload_n 1, 1) := by decide +kernel
theorem dX0_numberOf_17 : decode cX0_numberOf 17 = .ok (.if_icmp .ne 5, 3) := by decide +kernel
theorem dX0_numberOf_20 : decode cX0_numberOf 20 = .ok (.iload_n 2, 1) := by decide +kernel
theorem dX0_numberOf_21 : decode cX0_numberOf 21 = .ok (.ireturn, 1) := by decide +kernel
theorem dX0_numberOf_22 : decode cX0_numberOf 22 = .ok (.iinc 2 1, 3) := by decide +kernel
theorem dX0_numberOf_25 : decode cX0_numberOf 25 = .ok (.goto (-23), 3) := by decide +kernel
theorem dX0_numberOf_28 : decode cX0_numberOf 28 = .ok (.aload_n 0, 1) := by decide +kernel
theorem dX0_numberOf_29 : decode cX0_numberOf 29 = .ok (.getfield 9, 3) := by decide +kernel
theorem dX0_numberOf_32 : decode cX0_numberOf 32 = .ok (.aload_n 0, 1) := by decide +kernel
theorem dX0_numberOf_33 : decode cX0_numberOf 33 = .ok (.getfield 39, 3) := by decide +kernel
theorem dX0_numberOf_36 : decode cX0_numberOf 36 = .ok (.iload_n 1, 1) := by decide +kernel
theorem dX0_numberOf_37 : decode cX0_numberOf 37 = .ok (.iastore, 1) := by decide +kernel
theorem dX0_numberOf_38 : decode cX0_numberOf 38 = .ok (.aload_n 0, 1) := by decide +kernel
theorem dX0_numberOf_39 : decode cX0_numberOf 39 = .ok (.getfield 15, 3) := by decide +kernel
theorem dX0_numberOf_42 : decode cX0_numberOf 42 = .ok (.aload_n 0, 1) := by decide +kernel
theorem dX0_numberOf_43 : decode cX0_numberOf 43 = .ok (.getfield 39, 3) := by decide +kernel
theorem dX0_numberOf_46 : decode cX0_numberOf 46 = .ok (.iconst 0, 1) := by decide +kernel
theorem dX0_numberOf_47 : decode cX0_numberOf 47 = .ok (.iastore, 1) := by decide +kernel
theorem dX0_numberOf_48 : decode cX0_numberOf 48 = .ok (.aload_n 0, 1) := by decide +kernel
theorem dX0_numberOf_49 : decode cX0_numberOf 49 = .ok (.dup, 1) := by decide +kernel
theorem dX0_numberOf_50 : decode cX0_numberOf 50 = .ok (.getfield 39, 3) := by decide +kernel
theorem dX0_numberOf_53 : decode cX0_numberOf 53 = .ok (.dup_x1, 1) := by decide +kernel
theorem dX0_numberOf_54 : decode cX0_numberOf 54 = .ok (.iconst 1, 1) := by decide +kernel
theorem dX0_numberOf_55 : decode cX0_numberOf 55 = .ok (.iadd, 1) := by decide +kernel
theorem dX0_numberOf_56 : decode cX0_numberOf 56 = .ok (.putfield 39, 3) := by decide +kernel
theorem dX0_numberOf_59 : decode cX0_numberOf 59 = .ok (.ireturn, 1) := by decide +kernel
theorem dX0_entryOf_0 : decode cX0_entryOf 0 = .ok (.aload_n 0, 1) := by decide +kernel
theorem dX0_entryOf_1 : decode cX0_entryOf 1 = .ok (.iload_n 1, 1) := by decide +kernel
theorem dX0_entryOf_2 : decode cX0_entryOf 2 = .ok (.iload_n 2, 1) := by decide +kernel
theorem dX0_entryOf_3 : decode cX0_entryOf 3 = .ok (.invokevirtual 63, 3) := by decide +kernel
theorem dX0_entryOf_6 : decode cX0_entryOf 6 = .ok (.istore_n 3, 1) := by decide +kernel
theorem dX0_entryOf_7 : decode cX0_entryOf 7 = .ok (.iload_n 3, 1) := by decide +kernel
theorem dX0_entryOf_8 : decode cX0_entryOf 8 = .ok (.aload_n 0, 1) := by decide +kernel
theorem dX0_entryOf_9 : decode cX0_entryOf 9 = .ok (.getfield 42, 3) := by decide +kernel
theorem dX0_entryOf_12 : decode cX0_entryOf 12 = .ok (.if_icmp .ne 34, 3) := by decide +kernel
theorem dX0_entryOf_15 : decode cX0_entryOf 15 = .ok (.aload_n 0, 1) := by decide +kernel
theorem dX0_entryOf_16 : decode cX0_entryOf 16 = .ok (.getfield 18, 3) := by decide +kernel
theorem dX0_entryOf_19 : decode cX0_entryOf 19 = .ok (.iload_n 3, 1) := by decide +kernel
theorem dX0_entryOf_20 : decode cX0_entryOf 20 = .ok (.iload_n 1, 1) := by decide +kernel
theorem dX0_entryOf_21 : decode cX0_entryOf 21 = .ok (.iastore, 1) := by decide +kernel
theorem dX0_entryOf_22 : decode cX0_entryOf 22 = .ok (.aload_n 0, 1) := by decide +kernel
theorem dX0_entryOf_23 : decode cX0_entryOf 23 = .ok (.getfield 21, 3) := by decide +kernel
theorem dX0_entryOf_26 : decode cX0_entryOf 26 = .ok (.iload_n 3, 1) := by decide +kernel
theorem dX0_entryOf_27 : decode cX0_entryOf 27 = .ok (.iload_n 2, 1) := by decide +kernel
theorem dX0_entryOf_28 : decode cX0_entryOf 28 = .ok (.iastore, 1) := by decide +kernel
theorem dX0_entryOf_29 : decode cX0_entryOf 29 = .ok (.aload_n 0, 1) := by decide +kernel
theorem dX0_entryOf_30 : decode cX0_entryOf 30 = .ok (.getfield 24, 3) := by decide +kernel
theorem dX0_entryOf_33 : decode cX0_entryOf 33 = .ok (.iload_n 3, 1) := by decide +kernel
theorem dX0_entryOf_34 : decode cX0_entryOf 34 = .ok (.iconst 0, 1) := by decide +kernel
theorem dX0_entryOf_35 : decode cX0_entryOf 35 = .ok (.iastore, 1) := by decide +kernel
theorem dX0_entryOf_36 : decode cX0_entryOf 36 = .ok (.aload_n 0, 1) := by decide +kernel
theorem dX0_entryOf_37 : decode cX0_entryOf 37 = .ok (.dup, 1) := by decide +kernel
theorem dX0_entryOf_38 : decode cX0_entryOf 38 = .ok (.getfield 42, 3) := by decide +kernel
theorem dX0_entryOf_41 : decode cX0_entryOf 41 = .ok (.iconst 1, 1) := by decide +kernel
theorem dX0_entryOf_42 : decode cX0_entryOf 42 = .ok (.iadd, 1) := by decide +kernel
theorem dX0_entryOf_43 : decode cX0_entryOf 43 = .ok (.putfield 42, 3) := by decide +kernel
theorem dX0_entryOf_46 : decode cX0_entryOf 46 = .ok (.iload_n 3, 1) := by decide +kernel
theorem dX0_entryOf_47 : decode cX0_entryOf 47 = .ok (.ireturn, 1) := by decide +kernel
theorem dX0_findEntry_0 : decode cX0_findEntry 0 = .ok (.iconst 0, 1) := by decide +kernel
theorem dX0_findEntry_1 : decode cX0_findEntry 1 = .ok (.istore_n 3, 1) := by decide +kernel
theorem dX0_findEntry_2 : decode cX0_findEntry 2 = .ok (.iload_n 3, 1) := by decide +kernel
theorem dX0_findEntry_3 : decode cX0_findEntry 3 = .ok (.aload_n 0, 1) := by decide +kernel
theorem dX0_findEntry_4 : decode cX0_findEntry 4 = .ok (.getfield 42, 3) := by decide +kernel
theorem dX0_findEntry_7 : decode cX0_findEntry 7 = .ok (.if_icmp .ge 31, 3) := by decide +kernel
theorem dX0_findEntry_10 : decode cX0_findEntry 10 = .ok (.aload_n 0, 1) := by decide +kernel
theorem dX0_findEntry_11 : decode cX0_findEntry 11 = .ok (.getfield 18, 3) := by decide +kernel
theorem dX0_findEntry_14 : decode cX0_findEntry 14 = .ok (.iload_n 3, 1) := by decide +kernel
theorem dX0_findEntry_15 : decode cX0_findEntry 15 = .ok (.iaload, 1) := by decide +kernel
theorem dX0_findEntry_16 : decode cX0_findEntry 16 = .ok (.iload_n 1, 1) := by decide +kernel
theorem dX0_findEntry_17 : decode cX0_findEntry 17 = .ok (.if_icmp .ne 15, 3) := by decide +kernel
theorem dX0_findEntry_20 : decode cX0_findEntry 20 = .ok (.aload_n 0, 1) := by decide +kernel
theorem dX0_findEntry_21 : decode cX0_findEntry 21 = .ok (.getfield 21, 3) := by decide +kernel
theorem dX0_findEntry_24 : decode cX0_findEntry 24 = .ok (.iload_n 3, 1) := by decide +kernel
theorem dX0_findEntry_25 : decode cX0_findEntry 25 = .ok (.iaload, 1) := by decide +kernel
theorem dX0_findEntry_26 : decode cX0_findEntry 26 = .ok (.iload_n 2, 1) := by decide +kernel
theorem dX0_findEntry_27 : decode cX0_findEntry 27 = .ok (.if_icmp .ne 5, 3) := by decide +kernel
theorem dX0_findEntry_30 : decode cX0_findEntry 30 = .ok (.iload_n 3, 1) := by decide +kernel
theorem dX0_findEntry_31 : decode cX0_findEntry 31 = .ok (.ireturn, 1) := by decide +kernel
theorem dX0_findEntry_32 : decode cX0_findEntry 32 = .ok (.iinc 3 1, 3) := by decide +kernel
theorem dX0_findEntry_35 : decode cX0_findEntry 35 = .ok (.goto (-33), 3) := by decide +kernel
theorem dX0_findEntry_38 : decode cX0_findEntry 38 = .ok (.aload_n 0, 1) := by decide +kernel
theorem dX0_findEntry_39 : decode cX0_findEntry 39 = .ok (.getfield 42, 3) := by decide +kernel
theorem dX0_findEntry_42 : decode cX0_findEntry 42 = .ok (.ireturn, 1) := by decide +kernel
theorem dX1_init_0 : decode cX1_init 0 = .ok (.aload_n 0, 1) := by decide +kernel
theorem dX1_init_1 : decode cX1_init 1 = .ok (.invokespecial 3, 3) := by decide +kernel
theorem dX1_init_4 : decode cX1_init 4 = .ok (.aload_n 0, 1) := by decide +kernel
theorem dX1_init_5 : decode cX1_init 5 = .ok (.new 9, 3) := by decide +kernel
theorem dX1_init_8 : decode cX1_init 8 = .ok (.dup, 1) := by decide +kernel
theorem dX1_init_9 : decode cX1_init 9 = .ok (.invokespecial 11, 3) := by decide +kernel
theorem dX1_init_12 : decode cX1_init 12 = .ok (.putfield 12, 3) := by decide +kernel
theorem dX1_init_15 : decode cX1_init 15 = .ok (.aload_n 0, 1) := by decide +kernel
theorem dX1_init_16 : decode cX1_init 16 = .ok (.bipush 16, 2) := by decide +kernel
theorem dX1_init_18 : decode cX1_init 18 = .ok (.newarray .int, 2) := by decide +kernel
theorem dX1_init_20 : decode cX1_init 20 = .ok (.putfield 18, 3) := by decide +kernel
theorem dX1_init_23 : decode cX1_init 23 = .ok (.return_, 1) := by decide +kernel
theorem dX1_content_0 : decode cX1_content 0 = .ok (.lconst 0, 1) := by decide +kernel
theorem dX1_content_1 : decode cX1_content 1 = .ok (.lstore 4, 2) := by decide +kernel
theorem dX1_content_3 : decode cX1_content 3 = .ok (.iconst 0, 1) := by decide +kernel
theorem dX1_content_4 : decode cX1_content 4 = .ok (.istore 6, 2) := by decide +kernel
theorem dX1_content_6 : decode cX1_content 6 = .ok (.iload 6, 2) := by decide +kernel
theorem dX1_content_8 : decode cX1_content 8 = .ok (.aload_n 1, 1) := by decide +kernel
theorem dX1_content_9 : decode cX1_content 9 = .ok (.getfield 22, 3) := by decide +kernel
theorem dX1_content_12 : decode cX1_content 12 = .ok (.if_icmp .ge 51, 3) := by decide +kernel
theorem dX1_content_15 : decode cX1_content 15 = .ok (.aload_n 1, 1) := by decide +kernel
theorem dX1_content_16 : decode cX1_content 16 = .ok (.getfield 28, 3) := by decide +kernel
theorem dX1_content_19 : decode cX1_content 19 = .ok (.iload 6, 2) := by decide +kernel
theorem dX1_content_21 : decode cX1_content 21 = .ok (.iaload, 1) := by decide +kernel
theorem dX1_content_22 : decode cX1_content 22 = .ok (.istore 7, 2) := by decide +kernel
theorem dX1_content_24 : decode cX1_content 24 = .ok (.aload_n 1, 1) := by decide +kernel
theorem dX1_content_25 : decode cX1_content 25 = .ok (.getfield 31, 3) := by decide +kernel
theorem dX1_content_28 : decode cX1_content 28 = .ok (.aload_n 1, 1) := by decide +kernel
theorem dX1_content_29 : decode cX1_content 29 = .ok (.getfield 34, 3) := by decide +kernel
theorem dX1_content_32 : decode cX1_content 32 = .ok (.iload 6, 2) := by decide +kernel
theorem dX1_content_34 : decode cX1_content 34 = .ok (.iaload, 1) := by decide +kernel
theorem dX1_content_35 : decode cX1_content 35 = .ok (.iaload, 1) := by decide +kernel
theorem dX1_content_36 : decode cX1_content 36 = .ok (.istore 8, 2) := by decide +kernel
theorem dX1_content_38 : decode cX1_content 38 = .ok (.lload 4, 2) := by decide +kernel
theorem dX1_content_40 : decode cX1_content 40 = .ok (.iload 7, 2) := by decide +kernel
theorem dX1_content_42 : decode cX1_content 42 = .ok (.i2l, 1) := by decide +kernel
theorem dX1_content_43 : decode cX1_content 43 = .ok (.aload_n 0, 1) := by decide +kernel
theorem dX1_content_44 : decode cX1_content 44 = .ok (.iload 7, 2) := by decide +kernel
theorem dX1_content_46 : decode cX1_content 46 = .ok (.iload 8, 2) := by decide +kernel
theorem dX1_content_48 : decode cX1_content 48 = .ok (.iload_n 2, 1) := by decide +kernel
theorem dX1_content_49 : decode cX1_content 49 = .ok (.iload_n 3, 1) := by decide +kernel
theorem dX1_content_50 : decode cX1_content 50 = .ok (.invokevirtual 37, 3) := by decide +kernel
theorem dX1_content_53 : decode cX1_content 53 = .ok (.lmul, 1) := by decide +kernel
theorem dX1_content_54 : decode cX1_content 54 = .ok (.ladd, 1) := by decide +kernel
theorem dX1_content_55 : decode cX1_content 55 = .ok (.lstore 4, 2) := by decide +kernel
theorem dX1_content_57 : decode cX1_content 57 = .ok (.iinc 6 1, 3) := by decide +kernel
theorem dX1_content_60 : decode cX1_content 60 = .ok (.goto (-54), 3) := by decide +kernel
theorem dX1_content_63 : decode cX1_content 63 = .ok (.lload 4, 2) := by decide +kernel
theorem dX1_content_65 : decode cX1_content 65 = .ok (.lreturn, 1) := by decide +kernel
theorem dX1_cross_0 : decode cX1_cross 0 = .ok (.lconst 0, 1) := by decide +kernel
theorem dX1_cross_1 : decode cX1_cross 1 = .ok (.lstore 5, 2) := by decide +kernel
theorem dX1_cross_3 : decode cX1_cross 3 = .ok (.iconst 0, 1) := by decide +kernel
theorem dX1_cross_4 : decode cX1_cross 4 = .ok (.istore 7, 2) := by decide +kernel
theorem dX1_cross_6 : decode cX1_cross 6 = .ok (.iload 7, 2) := by decide +kernel
theorem dX1_cross_8 : decode cX1_cross 8 = .ok (.bipush 16, 2) := by decide +kernel
theorem dX1_cross_10 : decode cX1_cross 10 = .ok (.if_icmp .ge 51, 3) := by decide +kernel
theorem dX1_cross_13 : decode cX1_cross 13 = .ok (.aload_n 1, 1) := by decide +kernel
theorem dX1_cross_14 : decode cX1_cross 14 = .ok (.getfield 41, 3) := by decide +kernel
theorem dX1_cross_17 : decode cX1_cross 17 = .ok (.iload 7, 2) := by decide +kernel
theorem dX1_cross_19 : decode cX1_cross 19 = .ok (.iaload, 1) := by decide +kernel
theorem dX1_cross_20 : decode cX1_cross 20 = .ok (.ifCond .le 35, 3) := by decide +kernel
theorem dX1_cross_23 : decode cX1_cross 23 = .ok (.lload 5, 2) := by decide +kernel
theorem dX1_cross_25 : decode cX1_cross 25 = .ok (.aload_n 1, 1) := by decide +kernel
theorem dX1_cross_26 : decode cX1_cross 26 = .ok (.getfield 41, 3) := by decide +kernel
theorem dX1_cross_29 : decode cX1_cross 29 = .ok (.iload 7, 2) := by decide +kernel
theorem dX1_cross_31 : decode cX1_cross 31 = .ok (.iaload, 1) := by decide +kernel
theorem dX1_cross_32 : decode cX1_cross 32 = .ok (.i2l, 1) := by decide +kernel
theorem dX1_cross_33 : decode cX1_cross 33 = .ok (.aload_n 0, 1) := by decide +kernel
theorem dX1_cross_34 : decode cX1_cross 34 = .ok (.aload_n 2, 1) := by decide +kernel
theorem dX1_cross_35 : decode cX1_cross 35 = .ok (.getfield 46, 3) := by decide +kernel
theorem dX1_cross_38 : decode cX1_cross 38 = .ok (.iload 7, 2) := by decide +kernel
theorem dX1_cross_40 : decode cX1_cross 40 = .ok (.iaload, 1) := by decide +kernel
theorem dX1_cross_41 : decode cX1_cross 41 = .ok (.aload_n 2, 1) := by decide +kernel
theorem dX1_cross_42 : decode cX1_cross 42 = .ok (.getfield 51, 3) := by decide +kernel
theorem dX1_cross_45 : decode cX1_cross 45 = .ok (.iload_n 3, 1) := by decide +kernel
theorem dX1_cross_46 : decode cX1_cross 46 = .ok (.iload 4, 2) := by decide +kernel
theorem dX1_cross_48 : decode cX1_cross 48 = .ok (.invokevirtual 37, 3) := by decide +kernel
theorem dX1_cross_51 : decode cX1_cross 51 = .ok (.lmul, 1) := by decide +kernel
theorem dX1_cross_52 : decode cX1_cross 52 = .ok (.ladd, 1) := by decide +kernel
theorem dX1_cross_53 : decode cX1_cross 53 = .ok (.lstore 5, 2) := by decide +kernel
theorem dX1_cross_55 : decode cX1_cross 55 = .ok (.iinc 7 1, 3) := by decide +kernel
theorem dX1_cross_58 : decode cX1_cross 58 = .ok (.goto (-52), 3) := by decide +kernel
theorem dX1_cross_61 : decode cX1_cross 61 = .ok (.lload 5, 2) := by decide +kernel
theorem dX1_cross_63 : decode cX1_cross 63 = .ok (.lreturn, 1) := by decide +kernel
theorem dX1_growing_0 : decode cX1_growing 0 = .ok (.aload_n 0, 1) := by decide +kernel
theorem dX1_growing_1 : decode cX1_growing 1 = .ok (.getfield 18, 3) := by decide +kernel
theorem dX1_growing_4 : decode cX1_growing 4 = .ok (.iconst 0, 1) := by decide +kernel
theorem dX1_growing_5 : decode cX1_growing 5 = .ok (.invokestatic 54, 3) := by decide +kernel
theorem dX1_growing_8 : decode cX1_growing 8 = .ok (.lconst 0, 1) := by decide +kernel
theorem dX1_growing_9 : decode cX1_growing 9 = .ok (.lstore 4, 2) := by decide +kernel
theorem dX1_growing_11 : decode cX1_growing 11 = .ok (.iconst 0, 1) := by decide +kernel
theorem dX1_growing_12 : decode cX1_growing 12 = .ok (.istore 6, 2) := by decide +kernel
theorem dX1_growing_14 : decode cX1_growing 14 = .ok (.iload 6, 2) := by decide +kernel
theorem dX1_growing_16 : decode cX1_growing 16 = .ok (.aload_n 1, 1) := by decide +kernel
theorem dX1_growing_17 : decode cX1_growing 17 = .ok (.getfield 60, 3) := by decide +kernel
theorem dX1_growing_20 : decode cX1_growing 20 = .ok (.if_icmp .ge 52, 3) := by decide +kernel
theorem dX1_growing_23 : decode cX1_growing 23 = .ok (.aload_n 1, 1) := by decide +kernel
theorem dX1_growing_24 : decode cX1_growing 24 = .ok (.getfield 63, 3) := by decide +kernel
theorem dX1_growing_27 : decode cX1_growing 27 = .ok (.iload 6, 2) := by decide +kernel
theorem dX1_growing_29 : decode cX1_growing 29 = .ok (.iaload, 1) := by decide +kernel
theorem dX1_growing_30 : decode cX1_growing 30 = .ok (.istore 7, 2) := by decide +kernel
theorem dX1_growing_32 : decode cX1_growing 32 = .ok (.aload_n 0, 1) := by decide +kernel
theorem dX1_growing_33 : decode cX1_growing 33 = .ok (.getfield 18, 3) := by decide +kernel
theorem dX1_growing_36 : decode cX1_growing 36 = .ok (.iload 7, 2) := by decide +kernel
theorem dX1_growing_38 : decode cX1_growing 38 = .ok (.dup2, 1) := by decide +kernel
theorem dX1_growing_39 : decode cX1_growing 39 = .ok (.iaload, 1) := by decide +kernel
theorem dX1_growing_40 : decode cX1_growing 40 = .ok (.iconst 1, 1) := by decide +kernel
theorem dX1_growing_41 : decode cX1_growing 41 = .ok (.iadd, 1) := by decide +kernel
theorem dX1_growing_42 : decode cX1_growing 42 = .ok (.iastore, 1) := by decide +kernel
theorem dX1_growing_43 : decode cX1_growing 43 = .ok (.lload 4, 2) := by decide +kernel
theorem dX1_growing_45 : decode cX1_growing 45 = .ok (.aload_n 0, 1) := by decide +kernel
theorem dX1_growing_46 : decode cX1_growing 46 = .ok (.aload_n 0, 1) := by decide +kernel
theorem dX1_growing_47 : decode cX1_growing 47 = .ok (.getfield 18, 3) := by decide +kernel
theorem dX1_growing_50 : decode cX1_growing 50 = .ok (.iload 7, 2) := by decide +kernel
theorem dX1_growing_52 : decode cX1_growing 52 = .ok (.iaload, 1) := by decide +kernel
theorem dX1_growing_53 : decode cX1_growing 53 = .ok (.iload 6, 2) := by decide +kernel
theorem dX1_growing_55 : decode cX1_growing 55 = .ok (.bipush 16, 2) := by decide +kernel
theorem dX1_growing_57 : decode cX1_growing 57 = .ok (.iadd, 1) := by decide +kernel
theorem dX1_growing_58 : decode cX1_growing 58 = .ok (.iload_n 2, 1) := by decide +kernel
theorem dX1_growing_59 : decode cX1_growing 59 = .ok (.iload_n 3, 1) := by decide +kernel
theorem dX1_growing_60 : decode cX1_growing 60 = .ok (.invokevirtual 37, 3) := by decide +kernel
theorem dX1_growing_63 : decode cX1_growing 63 = .ok (.ladd, 1) := by decide +kernel
theorem dX1_growing_64 : decode cX1_growing 64 = .ok (.lstore 4, 2) := by decide +kernel
theorem dX1_growing_66 : decode cX1_growing 66 = .ok (.iinc 6 1, 3) := by decide +kernel
theorem dX1_growing_69 : decode cX1_growing 69 = .ok (.goto (-55), 3) := by decide +kernel
theorem dX1_growing_72 : decode cX1_growing 72 = .ok (.lload 4, 2) := by decide +kernel
theorem dX1_growing_74 : decode cX1_growing 74 = .ok (.lreturn, 1) := by decide +kernel
theorem dX1_partInWhole_0 : decode cX1_partInWhole 0 = .ok (.iload_n 1, 1) := by decide +kernel
theorem dX1_partInWhole_1 : decode cX1_partInWhole 1 = .ok (.iload_n 2, 1) := by decide +kernel
theorem dX1_partInWhole_2 : decode cX1_partInWhole 2 = .ok (.if_icmp .ne 5, 3) := by decide +kernel
theorem dX1_partInWhole_5 : decode cX1_partInWhole 5 = .ok (.lconst 0, 1) := by decide +kernel
theorem dX1_partInWhole_6 : decode cX1_partInWhole 6 = .ok (.lreturn, 1) := by decide +kernel
theorem dX1_partInWhole_7 : decode cX1_partInWhole 7 = .ok (.iload 4, 2) := by decide +kernel
theorem dX1_partInWhole_9 : decode cX1_partInWhole 9 = .ok (.ifCond .ne 7, 3) := by decide +kernel
theorem dX1_partInWhole_12 : decode cX1_partInWhole 12 = .ok (.iconst 1, 1) := by decide +kernel
theorem dX1_partInWhole_13 : decode cX1_partInWhole 13 = .ok (.goto 4, 3) := by decide +kernel
theorem dX1_partInWhole_16 : decode cX1_partInWhole 16 = .ok (.iconst 0, 1) := by decide +kernel
theorem dX1_partInWhole_17 : decode cX1_partInWhole 17 = .ok (.istore 5, 2) := by decide +kernel
theorem dX1_partInWhole_19 : decode cX1_partInWhole 19 = .ok (.aload_n 0, 1) := by decide +kernel
theorem dX1_partInWhole_20 : decode cX1_partInWhole 20 = .ok (.getfield 12, 3) := by decide +kernel
theorem dX1_partInWhole_23 : decode cX1_partInWhole 23 = .ok (.iload_n 2, 1) := by decide +kernel
theorem dX1_partInWhole_24 : decode cX1_partInWhole 24 = .ok (.iload_n 3, 1) := by decide +kernel
theorem dX1_partInWhole_25 : decode cX1_partInWhole 25 = .ok (.iload 4, 2) := by decide +kernel
theorem dX1_partInWhole_27 : decode cX1_partInWhole 27 = .ok (.invokevirtual 66, 3) := by decide +kernel
theorem dX1_partInWhole_30 : decode cX1_partInWhole 30 = .ok (.aload_n 0, 1) := by decide +kernel
theorem dX1_partInWhole_31 : decode cX1_partInWhole 31 = .ok (.getfield 12, 3) := by decide +kernel
theorem dX1_partInWhole_34 : decode cX1_partInWhole 34 = .ok (.iload_n 1, 1) := by decide +kernel
theorem dX1_partInWhole_35 : decode cX1_partInWhole 35 = .ok (.iload_n 3, 1) := by decide +kernel
theorem dX1_partInWhole_36 : decode cX1_partInWhole 36 = .ok (.iload 5, 2) := by decide +kernel
theorem dX1_partInWhole_38 : decode cX1_partInWhole 38 = .ok (.invokevirtual 66, 3) := by decide +kernel
theorem dX1_partInWhole_41 : decode cX1_partInWhole 41 = .ok (.lsub, 1) := by decide +kernel
theorem dX1_partInWhole_42 : decode cX1_partInWhole 42 = .ok (.lstore 6, 2) := by decide +kernel
theorem dX1_partInWhole_44 : decode cX1_partInWhole 44 = .ok (.lload 6, 2) := by decide +kernel
theorem dX1_partInWhole_46 : decode cX1_partInWhole 46 = .ok (.lconst 0, 1) := by decide +kernel
theorem dX1_partInWhole_47 : decode cX1_partInWhole 47 = .ok (.invokestatic 70, 3) := by decide +kernel
theorem dX1_partInWhole_50 : decode cX1_partInWhole 50 = .ok (.lreturn, 1) := by decide +kernel
theorem dX2_init_0 : decode cX2_init 0 = .ok (.aload_n 0, 1) := by decide +kernel
theorem dX2_init_1 : decode cX2_init 1 = .ok (.invokespecial 3, 3) := by decide +kernel
theorem dX2_init_4 : decode cX2_init 4 = .ok (.return_, 1) := by decide +kernel
theorem dX2_cut_0 : decode cX2_cut 0 = .ok (.iconst 0, 1) := by decide +kernel
theorem dX2_cut_1 : decode cX2_cut 1 = .ok (.istore_n 2, 1) := by decide +kernel
theorem dX2_cut_2 : decode cX2_cut 2 = .ok (.iconst 0, 1) := by decide +kernel
theorem dX2_cut_3 : decode cX2_cut 3 = .ok (.istore_n 3, 1) := by decide +kernel
theorem dX2_cut_4 : decode cX2_cut 4 = .ok (.iload_n 3, 1) := by decide +kernel
theorem dX2_cut_5 : decode cX2_cut 5 = .ok (.aload_n 1, 1) := by decide +kernel
theorem dX2_cut_6 : decode cX2_cut 6 = .ok (.getfield 9, 3) := by decide +kernel
theorem dX2_cut_9 : decode cX2_cut 9 = .ok (.if_icmp .ge 34, 3) := by decide +kernel
theorem dX2_cut_12 : decode cX2_cut 12 = .ok (.iload_n 3, 1) := by decide +kernel
theorem dX2_cut_13 : decode cX2_cut 13 = .ok (.iload_n 2, 1) := by decide +kernel
theorem dX2_cut_14 : decode cX2_cut 14 = .ok (.if_icmp .ne 23, 3) := by decide +kernel
theorem dX2_cut_17 : decode cX2_cut 17 = .ok (.aload_n 0, 1) := by decide +kernel
theorem dX2_cut_18 : decode cX2_cut 18 = .ok (.aload_n 1, 1) := by decide +kernel
theorem dX2_cut_19 : decode cX2_cut 19 = .ok (.iload_n 3, 1) := by decide +kernel
theorem dX2_cut_20 : decode cX2_cut 20 = .ok (.invokevirtual 15, 3) := by decide +kernel
theorem dX2_cut_23 : decode cX2_cut 23 = .ok (.iload_n 3, 1) := by decide +kernel
theorem dX2_cut_24 : decode cX2_cut 24 = .ok (.aload_n 0, 1) := by decide +kernel
theorem dX2_cut_25 : decode cX2_cut 25 = .ok (.getfield 21, 3) := by decide +kernel
theorem dX2_cut_28 : decode cX2_cut 28 = .ok (.aload_n 0, 1) := by decide +kernel
theorem dX2_cut_29 : decode cX2_cut 29 = .ok (.getfield 25, 3) := by decide +kernel
theorem dX2_cut_32 : decode cX2_cut 32 = .ok (.iconst 1, 1) := by decide +kernel
theorem dX2_cut_33 : decode cX2_cut 33 = .ok (.isub, 1) := by decide +kernel
theorem dX2_cut_34 : decode cX2_cut 34 = .ok (.iaload, 1) := by decide +kernel
theorem dX2_cut_35 : decode cX2_cut 35 = .ok (.iadd, 1) := by decide +kernel
theorem dX2_cut_36 : decode cX2_cut 36 = .ok (.istore_n 2, 1) := by decide +kernel
theorem dX2_cut_37 : decode cX2_cut 37 = .ok (.iinc 3 1, 3) := by decide +kernel
theorem dX2_cut_40 : decode cX2_cut 40 = .ok (.goto (-36), 3) := by decide +kernel
theorem dX2_cut_43 : decode cX2_cut 43 = .ok (.return_, 1) := by decide +kernel
theorem dX2_addFactor_0 : decode cX2_addFactor 0 = .ok (.iconst 0, 1) := by decide +kernel
theorem dX2_addFactor_1 : decode cX2_addFactor 1 = .ok (.istore_n 3, 1) := by decide +kernel
theorem dX2_addFactor_2 : decode cX2_addFactor 2 = .ok (.bipush (-2), 2) := by decide +kernel
theorem dX2_addFactor_4 : decode cX2_addFactor 4 = .ok (.istore 4, 2) := by decide +kernel
theorem dX2_addFactor_6 : decode cX2_addFactor 6 = .ok (.iconst 0, 1) := by decide +kernel
theorem dX2_addFactor_7 : decode cX2_addFactor 7 = .ok (.istore 5, 2) := by decide +kernel
theorem dX2_addFactor_9 : decode cX2_addFactor 9 = .ok (.iload 5, 2) := by decide +kernel
theorem dX2_addFactor_11 : decode cX2_addFactor 11 = .ok (.iload_n 2, 1) := by decide +kernel
theorem dX2_addFactor_12 : decode cX2_addFactor 12 = .ok (.if_icmp .ge 31, 3) := by decide +kernel
theorem dX2_addFactor_15 : decode cX2_addFactor 15 = .ok (.aload_n 1, 1) := by decide +kernel
theorem dX2_addFactor_16 : decode cX2_addFactor 16 = .ok (.iload 5, 2) := by decide +kernel
theorem dX2_addFactor_18 : decode cX2_addFactor 18 = .ok (.iload_n 2, 1) := by decide +kernel
theorem dX2_addFactor_19 : decode cX2_addFactor 19 = .ok (.invokestatic 28, 3) := by decide +kernel
theorem dX2_addFactor_22 : decode cX2_addFactor 22 = .ok (.istore 6, 2) := by decide +kernel
theorem dX2_addFactor_24 : decode cX2_addFactor 24 = .ok (.iload 6, 2) := by decide +kernel
theorem dX2_addFactor_26 : decode cX2_addFactor 26 = .ok (.iload_n 3, 1) := by decide +kernel
theorem dX2_addFactor_27 : decode cX2_addFactor 27 = .ok (.if_icmp .le 10, 3) := by decide +kernel
theorem dX2_addFactor_30 : decode cX2_addFactor 30 = .ok (.iload 6, 2) := by decide +kernel
theorem dX2_addFactor_32 : decode cX2_addFactor 32 = .ok (.istore_n 3, 1) := by decide +kernel
theorem dX2_addFactor_33 : decode cX2_addFactor 33 = .ok (.iload 5, 2) := by decide +kernel
theorem dX2_addFactor_35 : decode cX2_addFactor 35 = .ok (.istore 4, 2) := by decide +kernel
theorem dX2_addFactor_37 : decode cX2_addFactor 37 = .ok (.iinc 5 1, 3) := by decide +kernel
theorem dX2_addFactor_40 : decode cX2_addFactor 40 = .ok (.goto (-31), 3) := by decide +kernel
theorem dX2_addFactor_43 : decode cX2_addFactor 43 = .ok (.aload_n 0, 1) := by decide +kernel
theorem dX2_addFactor_44 : decode cX2_addFactor 44 = .ok (.iload_n 2, 1) := by decide +kernel
theorem dX2_addFactor_45 : decode cX2_addFactor 45 = .ok (.iload_n 3, 1) := by decide +kernel
theorem dX2_addFactor_46 : decode cX2_addFactor 46 = .ok (.iconst 1, 1) := by decide +kernel
theorem dX2_addFactor_47 : decode cX2_addFactor 47 = .ok (.invokestatic 32, 3) := by decide +kernel
theorem dX2_addFactor_50 : decode cX2_addFactor 50 = .ok (.iload 4, 2) := by decide +kernel
theorem dX2_addFactor_52 : decode cX2_addFactor 52 = .ok (.invokevirtual 38, 3) := by decide +kernel
theorem dX2_addFactor_55 : decode cX2_addFactor 55 = .ok (.return_, 1) := by decide +kernel
theorem dX2_commonRun_0 : decode cX2_commonRun 0 = .ok (.iconst 0, 1) := by decide +kernel
theorem dX2_commonRun_1 : decode cX2_commonRun 1 = .ok (.istore_n 3, 1) := by decide +kernel
theorem dX2_commonRun_2 : decode cX2_commonRun 2 = .ok (.iload_n 2, 1) := by decide +kernel
theorem dX2_commonRun_3 : decode cX2_commonRun 3 = .ok (.iload_n 3, 1) := by decide +kernel
theorem dX2_commonRun_4 : decode cX2_commonRun 4 = .ok (.iadd, 1) := by decide +kernel
theorem dX2_commonRun_5 : decode cX2_commonRun 5 = .ok (.aload_n 0, 1) := by decide +kernel
theorem dX2_commonRun_6 : decode cX2_commonRun 6 = .ok (.getfield 9, 3) := by decide +kernel
theorem dX2_commonRun_9 : decode cX2_commonRun 9 = .ok (.if_icmp .ge 28, 3) := by decide +kernel
theorem dX2_commonRun_12 : decode cX2_commonRun 12 = .ok (.aload_n 0, 1) := by decide +kernel
theorem dX2_commonRun_13 : decode cX2_commonRun 13 = .ok (.getfield 42, 3) := by decide +kernel
theorem dX2_commonRun_16 : decode cX2_commonRun 16 = .ok (.iload_n 1, 1) := by decide +kernel
theorem dX2_commonRun_17 : decode cX2_commonRun 17 = .ok (.iload_n 3, 1) := by decide +kernel
theorem dX2_commonRun_18 : decode cX2_commonRun 18 = .ok (.iadd, 1) := by decide +kernel
theorem dX2_commonRun_19 : decode cX2_commonRun 19 = .ok (.iaload, 1) := by decide +kernel
theorem dX2_commonRun_20 : decode cX2_commonRun 20 = .ok (.aload_n 0, 1) := by decide +kernel
theorem dX2_commonRun_21 : decode cX2_commonRun 21 = .ok (.getfield 42, 3) := by decide +kernel
theorem dX2_commonRun_24 : decode cX2_commonRun 24 = .ok (.iload_n 2, 1) := by decide +kernel
theorem dX2_commonRun_25 : decode cX2_commonRun 25 = .ok (.iload_n 3, 1) := by decide +kernel
theorem dX2_commonRun_26 : decode cX2_commonRun 26 = .ok (.iadd, 1) := by decide +kernel
theorem dX2_commonRun_27 : decode cX2_commonRun 27 = .ok (.iaload, 1) := by decide +kernel
theorem dX2_commonRun_28 : decode cX2_commonRun 28 = .ok (.if_icmp .ne 9, 3) := by decide +kernel
theorem dX2_commonRun_31 : decode cX2_commonRun 31 = .ok (.iinc 3 1, 3) := by decide +kernel
theorem dX2_commonRun_34 : decode cX2_commonRun 34 = .ok (.goto (-32), 3) := by decide +kernel
theorem dX2_commonRun_37 : decode cX2_commonRun 37 = .ok (.iload_n 3, 1) := by decide +kernel
theorem dX2_commonRun_38 : decode cX2_commonRun 38 = .ok (.ireturn, 1) := by decide +kernel
theorem dX3_init_0 : decode cX3_init 0 = .ok (.aload_n 0, 1) := by decide +kernel
theorem dX3_init_1 : decode cX3_init 1 = .ok (.invokespecial 3, 3) := by decide +kernel
theorem dX3_init_4 : decode cX3_init 4 = .ok (.aload_n 0, 1) := by decide +kernel
theorem dX3_init_5 : decode cX3_init 5 = .ok (.new 9, 3) := by decide +kernel
theorem dX3_init_8 : decode cX3_init 8 = .ok (.dup, 1) := by decide +kernel
theorem dX3_init_9 : decode cX3_init 9 = .ok (.invokespecial 11, 3) := by decide +kernel
theorem dX3_init_12 : decode cX3_init 12 = .ok (.putfield 12, 3) := by decide +kernel
theorem dX3_init_15 : decode cX3_init 15 = .ok (.aload_n 0, 1) := by decide +kernel
theorem dX3_init_16 : decode cX3_init 16 = .ok (.sipush 400, 3) := by decide +kernel
theorem dX3_init_19 : decode cX3_init 19 = .ok (.newarray .int, 2) := by decide +kernel
theorem dX3_init_21 : decode cX3_init 21 = .ok (.putfield 18, 3) := by decide +kernel
theorem dX3_init_24 : decode cX3_init 24 = .ok (.aload_n 0, 1) := by decide +kernel
theorem dX3_init_25 : decode cX3_init 25 = .ok (.sipush 200, 3) := by decide +kernel
theorem dX3_init_28 : decode cX3_init 28 = .ok (.newarray .int, 2) := by decide +kernel
theorem dX3_init_30 : decode cX3_init 30 = .ok (.putfield 22, 3) := by decide +kernel
theorem dX3_init_33 : decode cX3_init 33 = .ok (.aload_n 0, 1) := by decide +kernel
theorem dX3_init_34 : decode cX3_init 34 = .ok (.sipush 200, 3) := by decide +kernel
theorem dX3_init_37 : decode cX3_init 37 = .ok (.newarray .int, 2) := by decide +kernel
theorem dX3_init_39 : decode cX3_init 39 = .ok (.putfield 25, 3) := by decide +kernel
theorem dX3_init_42 : decode cX3_init 42 = .ok (.return_, 1) := by decide +kernel
theorem dX3_follow_0 : decode cX3_follow 0 = .ok (.aload_n 0, 1) := by decide +kernel
theorem dX3_follow_1 : decode cX3_follow 1 = .ok (.getfield 28, 3) := by decide +kernel
theorem dX3_follow_4 : decode cX3_follow 4 = .ok (.aload_n 1, 1) := by decide +kernel
theorem dX3_follow_5 : decode cX3_follow 5 = .ok (.getfield 32, 3) := by decide +kernel
theorem dX3_follow_8 : decode cX3_follow 8 = .ok (.if_icmp .ne 4, 3) := by decide +kernel
theorem dX3_follow_11 : decode cX3_follow 11 = .ok (.return_, 1) := by decide +kernel
theorem dX3_follow_12 : decode cX3_follow 12 = .ok (.aload_n 0, 1) := by decide +kernel
theorem dX3_follow_13 : decode cX3_follow 13 = .ok (.aload_n 1, 1) := by decide +kernel
theorem dX3_follow_14 : decode cX3_follow 14 = .ok (.getfield 32, 3) := by decide +kernel
theorem dX3_follow_17 : decode cX3_follow 17 = .ok (.putfield 28, 3) := by decide +kernel
theorem dX3_follow_20 : decode cX3_follow 20 = .ok (.aload_n 1, 1) := by decide +kernel
theorem dX3_follow_21 : decode cX3_follow 21 = .ok (.getfield 37, 3) := by decide +kernel
theorem dX3_follow_24 : decode cX3_follow 24 = .ok (.iconst 0, 1) := by decide +kernel
theorem dX3_follow_25 : decode cX3_follow 25 = .ok (.aload_n 0, 1) := by decide +kernel
theorem dX3_follow_26 : decode cX3_follow 26 = .ok (.getfield 18, 3) := by decide +kernel
theorem dX3_follow_29 : decode cX3_follow 29 = .ok (.iconst 0, 1) := by decide +kernel
theorem dX3_follow_30 : decode cX3_follow 30 = .ok (.aload_n 1, 1) := by decide +kernel
theorem dX3_follow_31 : decode cX3_follow 31 = .ok (.getfield 40, 3) := by decide +kernel
theorem dX3_follow_34 : decode cX3_follow 34 = .ok (.invokestatic 43, 3) := by decide +kernel
theorem dX3_follow_37 : decode cX3_follow 37 = .ok (.aload_n 0, 1) := by decide +kernel
theorem dX3_follow_38 : decode cX3_follow 38 = .ok (.aload_n 1, 1) := by decide +kernel
theorem dX3_follow_39 : decode cX3_follow 39 = .ok (.getfield 40, 3) := by decide +kernel
theorem dX3_follow_42 : decode cX3_follow 42 = .ok (.putfield 49, 3) := by decide +kernel
theorem dX3_follow_45 : decode cX3_follow 45 = .ok (.aload_n 0, 1) := by decide +kernel
theorem dX3_follow_46 : decode cX3_follow 46 = .ok (.iconst 0, 1) := by decide +kernel
theorem dX3_follow_47 : decode cX3_follow 47 = .ok (.putfield 52, 3) := by decide +kernel
theorem dX3_follow_50 : decode cX3_follow 50 = .ok (.iconst 1, 1) := by decide +kernel
theorem dX3_follow_51 : decode cX3_follow 51 = .ok (.istore_n 2, 1) := by decide +kernel
theorem dX3_follow_52 : decode cX3_follow 52 = .ok (.iconst 0, 1) := by decide +kernel
theorem dX3_follow_53 : decode cX3_follow 53 = .ok (.istore_n 3, 1) := by decide +kernel
theorem dX3_follow_54 : decode cX3_follow 54 = .ok (.iload_n 2, 1) := by decide +kernel
theorem dX3_follow_55 : decode cX3_follow 55 = .ok (.ifCond .eq 21, 3) := by decide +kernel
theorem dX3_follow_58 : decode cX3_follow 58 = .ok (.iload_n 3, 1) := by decide +kernel
theorem dX3_follow_59 : decode cX3_follow 59 = .ok (.sipush 200, 3) := by decide +kernel
theorem dX3_follow_62 : decode cX3_follow 62 = .ok (.if_icmp .ge 14, 3) := by decide +kernel
theorem dX3_follow_65 : decode cX3_follow 65 = .ok (.aload_n 0, 1) := by decide +kernel
theorem dX3_follow_66 : decode cX3_follow 66 = .ok (.invokevirtual 55, 3) := by decide +kernel
theorem dX3_follow_69 : decode cX3_follow 69 = .ok (.istore_n 2, 1) := by decide +kernel
theorem dX3_follow_70 : decode cX3_follow 70 = .ok (.iinc 3 1, 3) := by decide +kernel
theorem dX3_follow_73 : decode cX3_follow 73 = .ok (.goto (-19), 3) := by decide +kernel
theorem dX3_follow_76 : decode cX3_follow 76 = .ok (.return_, 1) := by decide +kernel
theorem dX3_addRule_0 : decode cX3_addRule 0 = .ok (.aload_n 0, 1) := by decide +kernel
theorem dX3_addRule_1 : decode cX3_addRule 1 = .ok (.getfield 12, 3) := by decide +kernel
theorem dX3_addRule_4 : decode cX3_addRule 4 = .ok (.aload_n 0, 1) := by decide +kernel
theorem dX3_addRule_5 : decode cX3_addRule 5 = .ok (.getfield 18, 3) := by decide +kernel
theorem dX3_addRule_8 : decode cX3_addRule 8 = .ok (.aload_n 0, 1) := by decide +kernel
theorem dX3_addRule_9 : decode cX3_addRule 9 = .ok (.getfield 49, 3) := by decide +kernel
theorem dX3_addRule_12 : decode cX3_addRule 12 = .ok (.invokevirtual 59, 3) := by decide +kernel
theorem dX3_addRule_15 : decode cX3_addRule 15 = .ok (.aload_n 0, 1) := by decide +kernel
theorem dX3_addRule_16 : decode cX3_addRule 16 = .ok (.getfield 12, 3) := by decide +kernel
theorem dX3_addRule_19 : decode cX3_addRule 19 = .ok (.invokevirtual 63, 3) := by decide +kernel
theorem dX3_addRule_22 : decode cX3_addRule 22 = .ok (.istore_n 1, 1) := by decide +kernel
theorem dX3_addRule_23 : decode cX3_addRule 23 = .ok (.iload_n 1, 1) := by decide +kernel
theorem dX3_addRule_24 : decode cX3_addRule 24 = .ok (.bipush (-2), 2) := by decide +kernel
theorem dX3_addRule_26 : decode cX3_addRule 26 = .ok (.if_icmp .ne 5, 3) := by decide +kernel
theorem dX3_addRule_29 : decode cX3_addRule 29 = .ok (.iconst 0, 1) := by decide +kernel
theorem dX3_addRule_30 : decode cX3_addRule 30 = .ok (.ireturn, 1) := by decide +kernel
theorem dX3_addRule_31 : decode cX3_addRule 31 = .ok (.aload_n 0, 1) := by decide +kernel
theorem dX3_addRule_32 : decode cX3_addRule 32 = .ok (.getfield 22, 3) := by decide +kernel
theorem dX3_addRule_35 : decode cX3_addRule 35 = .ok (.aload_n 0, 1) := by decide +kernel
theorem dX3_addRule_36 : decode cX3_addRule 36 = .ok (.getfield 52, 3) := by decide +kernel
theorem dX3_addRule_39 : decode cX3_addRule 39 = .ok (.aload_n 0, 1) := by decide +kernel
theorem dX3_addRule_40 : decode cX3_addRule 40 = .ok (.getfield 12, 3) := by decide +kernel
theorem dX3_addRule_43 : decode cX3_addRule 43 = .ok (.getfield 67, 3) := by decide +kernel
theorem dX3_addRule_46 : decode cX3_addRule 46 = .ok (.iload_n 1, 1) := by decide +kernel
theorem dX3_addRule_47 : decode cX3_addRule 47 = .ok (.iaload, 1) := by decide +kernel
theorem dX3_addRule_48 : decode cX3_addRule 48 = .ok (.iastore, 1) := by decide +kernel
theorem dX3_addRule_49 : decode cX3_addRule 49 = .ok (.aload_n 0, 1) := by decide +kernel
theorem dX3_addRule_50 : decode cX3_addRule 50 = .ok (.getfield 25, 3) := by decide +kernel
theorem dX3_addRule_53 : decode cX3_addRule 53 = .ok (.aload_n 0, 1) := by decide +kernel
theorem dX3_addRule_54 : decode cX3_addRule 54 = .ok (.getfield 52, 3) := by decide +kernel
theorem dX3_addRule_57 : decode cX3_addRule 57 = .ok (.aload_n 0, 1) := by decide +kernel
theorem dX3_addRule_58 : decode cX3_addRule 58 = .ok (.getfield 12, 3) := by decide +kernel
theorem dX3_addRule_61 : decode cX3_addRule 61 = .ok (.getfield 68, 3) := by decide +kernel
theorem dX3_addRule_64 : decode cX3_addRule 64 = .ok (.iload_n 1, 1) := by decide +kernel
theorem dX3_addRule_65 : decode cX3_addRule 65 = .ok (.iaload, 1) := by decide +kernel
theorem dX3_addRule_66 : decode cX3_addRule 66 = .ok (.iastore, 1) := by decide +kernel
theorem dX3_addRule_67 : decode cX3_addRule 67 = .ok (.aload_n 0, 1) := by decide +kernel
theorem dX3_addRule_68 : decode cX3_addRule 68 = .ok (.aload_n 0, 1) := by decide +kernel
theorem dX3_addRule_69 : decode cX3_addRule 69 = .ok (.getfield 22, 3) := by decide +kernel
theorem dX3_addRule_72 : decode cX3_addRule 72 = .ok (.aload_n 0, 1) := by decide +kernel
theorem dX3_addRule_73 : decode cX3_addRule 73 = .ok (.getfield 52, 3) := by decide +kernel
theorem dX3_addRule_76 : decode cX3_addRule 76 = .ok (.iaload, 1) := by decide +kernel
theorem dX3_addRule_77 : decode cX3_addRule 77 = .ok (.aload_n 0, 1) := by decide +kernel
theorem dX3_addRule_78 : decode cX3_addRule 78 = .ok (.getfield 25, 3) := by decide +kernel
theorem dX3_addRule_81 : decode cX3_addRule 81 = .ok (.aload_n 0, 1) := by decide +kernel
theorem dX3_addRule_82 : decode cX3_addRule 82 = .ok (.getfield 52, 3) := by decide +kernel
theorem dX3_addRule_85 : decode cX3_addRule 85 = .ok (.iaload, 1) := by decide +kernel
theorem dX3_addRule_86 : decode cX3_addRule 86 = .ok (.bipush 16, 2) := by decide +kernel
theorem dX3_addRule_88 : decode cX3_addRule 88 = .ok (.aload_n 0, 1) := by decide +kernel
theorem dX3_addRule_89 : decode cX3_addRule 89 = .ok (.getfield 52, 3) := by decide +kernel
theorem dX3_addRule_92 : decode cX3_addRule 92 = .ok (.iadd, 1) := by decide +kernel
theorem dX3_addRule_93 : decode cX3_addRule 93 = .ok (.invokevirtual 69, 3) := by decide +kernel
theorem dX3_addRule_96 : decode cX3_addRule 96 = .ok (.aload_n 0, 1) := by decide +kernel
theorem dX3_addRule_97 : decode cX3_addRule 97 = .ok (.dup, 1) := by decide +kernel
theorem dX3_addRule_98 : decode cX3_addRule 98 = .ok (.getfield 52, 3) := by decide +kernel
theorem dX3_addRule_101 : decode cX3_addRule 101 = .ok (.iconst 1, 1) := by decide +kernel
theorem dX3_addRule_102 : decode cX3_addRule 102 = .ok (.iadd, 1) := by decide +kernel
theorem dX3_addRule_103 : decode cX3_addRule 103 = .ok (.putfield 52, 3) := by decide +kernel
theorem dX3_addRule_106 : decode cX3_addRule 106 = .ok (.iconst 1, 1) := by decide +kernel
theorem dX3_addRule_107 : decode cX3_addRule 107 = .ok (.ireturn, 1) := by decide +kernel
theorem dX3_replacePair_0 : decode cX3_replacePair 0 = .ok (.iconst 0, 1) := by decide +kernel
theorem dX3_replacePair_1 : decode cX3_replacePair 1 = .ok (.istore 4, 2) := by decide +kernel
theorem dX3_replacePair_3 : decode cX3_replacePair 3 = .ok (.iconst 0, 1) := by decide +kernel
theorem dX3_replacePair_4 : decode cX3_replacePair 4 = .ok (.istore 5, 2) := by decide +kernel
theorem dX3_replacePair_6 : decode cX3_replacePair 6 = .ok (.iload 5, 2) := by decide +kernel
theorem dX3_replacePair_8 : decode cX3_replacePair 8 = .ok (.aload_n 0, 1) := by decide +kernel
theorem dX3_replacePair_9 : decode cX3_replacePair 9 = .ok (.getfield 49, 3) := by decide +kernel
theorem dX3_replacePair_12 : decode cX3_replacePair 12 = .ok (.if_icmp .ge 66, 3) := by decide +kernel
theorem dX3_replacePair_15 : decode cX3_replacePair 15 = .ok (.aload_n 0, 1) := by decide +kernel
theorem dX3_replacePair_16 : decode cX3_replacePair 16 = .ok (.getfield 18, 3) := by decide +kernel
theorem dX3_replacePair_19 : decode cX3_replacePair 19 = .ok (.iload 5, 2) := by decide +kernel
theorem dX3_replacePair_21 : decode cX3_replacePair 21 = .ok (.iaload, 1) := by decide +kernel
theorem dX3_replacePair_22 : decode cX3_replacePair 22 = .ok (.istore 6, 2) := by decide +kernel
theorem dX3_replacePair_24 : decode cX3_replacePair 24 = .ok (.iload 6, 2) := by decide +kernel
theorem dX3_replacePair_26 : decode cX3_replacePair 26 = .ok (.iload_n 1, 1) := by decide +kernel
theorem dX3_replacePair_27 : decode cX3_replacePair 27 = .ok (.if_icmp .ne 33, 3) := by decide +kernel
theorem dX3_replacePair_30 : decode cX3_replacePair 30 = .ok (.iload 5, 2) := by decide +kernel
theorem dX3_replacePair_32 : decode cX3_replacePair 32 = .ok (.iconst 1, 1) := by decide +kernel
theorem dX3_replacePair_33 : decode cX3_replacePair 33 = .ok (.iadd, 1) := by decide +kernel
theorem dX3_replacePair_34 : decode cX3_replacePair 34 = .ok (.aload_n 0, 1) := by decide +kernel
theorem dX3_replacePair_35 : decode cX3_replacePair 35 = .ok (.getfield 49, 3) := by decide +kernel
theorem dX3_replacePair_38 : decode cX3_replacePair 38 = .ok (.if_icmp .ge 22, 3) := by decide +kernel
theorem dX3_replacePair_41 : decode cX3_replacePair 41 = .ok (.aload_n 0, 1) := by decide +kernel
theorem dX3_replacePair_42 : decode cX3_replacePair 42 = .ok (.getfield 18, 3) := by decide +kernel
theorem dX3_replacePair_45 : decode cX3_replacePair 45 = .ok (.iload 5, 2) := by decide +kernel
theorem dX3_replacePair_47 : decode cX3_replacePair 47 = .ok (.iconst 1, 1) := by decide +kernel
theorem dX3_replacePair_48 : decode cX3_replacePair 48 = .ok (.iadd, 1) := by decide +kernel
theorem dX3_replacePair_49 : decode cX3_replacePair 49 = .ok (.iaload, 1) := by decide +kernel
theorem dX3_replacePair_50 : decode cX3_replacePair 50 = .ok (.iload_n 2, 1) := by decide +kernel
theorem dX3_replacePair_51 : decode cX3_replacePair 51 = .ok (.if_icmp .ne 9, 3) := by decide +kernel
theorem dX3_replacePair_54 : decode cX3_replacePair 54 = .ok (.iload_n 3, 1) := by decide +kernel
theorem dX3_replacePair_55 : decode cX3_replacePair 55 = .ok (.istore 6, 2) := by decide +kernel
theorem dX3_replacePair_57 : decode cX3_replacePair 57 = .ok (.iinc 5 1, 3) := by decide +kernel
theorem dX3_replacePair_60 : decode cX3_replacePair 60 = .ok (.aload_n 0, 1) := by decide +kernel
theorem dX3_replacePair_61 : decode cX3_replacePair 61 = .ok (.getfield 18, 3) := by decide +kernel
theorem dX3_replacePair_64 : decode cX3_replacePair 64 = .ok (.iload 4, 2) := by decide +kernel
theorem dX3_replacePair_66 : decode cX3_replacePair 66 = .ok (.iload 6, 2) := by decide +kernel
theorem dX3_replacePair_68 : decode cX3_replacePair 68 = .ok (.iastore, 1) := by decide +kernel
theorem dX3_replacePair_69 : decode cX3_replacePair 69 = .ok (.iinc 4 1, 3) := by decide +kernel
theorem dX3_replacePair_72 : decode cX3_replacePair 72 = .ok (.iinc 5 1, 3) := by decide +kernel
theorem dX3_replacePair_75 : decode cX3_replacePair 75 = .ok (.goto (-69), 3) := by decide +kernel
theorem dX3_replacePair_78 : decode cX3_replacePair 78 = .ok (.aload_n 0, 1) := by decide +kernel
theorem dX3_replacePair_79 : decode cX3_replacePair 79 = .ok (.iload 4, 2) := by decide +kernel
theorem dX3_replacePair_81 : decode cX3_replacePair 81 = .ok (.putfield 49, 3) := by decide +kernel
theorem dX3_replacePair_84 : decode cX3_replacePair 84 = .ok (.return_, 1) := by decide +kernel
theorem dX4_init_0 : decode cX4_init 0 = .ok (.aload_n 0, 1) := by decide +kernel
theorem dX4_init_1 : decode cX4_init 1 = .ok (.invokespecial 5, 3) := by decide +kernel
theorem dX4_init_4 : decode cX4_init 4 = .ok (.aload_n 0, 1) := by decide +kernel
theorem dX4_init_5 : decode cX4_init 5 = .ok (.sipush 832, 3) := by decide +kernel
theorem dX4_init_8 : decode cX4_init 8 = .ok (.newarray .int, 2) := by decide +kernel
theorem dX4_init_10 : decode cX4_init 10 = .ok (.putfield 11, 3) := by decide +kernel
theorem dX4_init_13 : decode cX4_init 13 = .ok (.return_, 1) := by decide +kernel
theorem dX4_end_0 : decode cX4_end 0 = .ok (.iload_n 1, 1) := by decide +kernel
theorem dX4_end_1 : decode cX4_end 1 = .ok (.invokestatic 15, 3) := by decide +kernel
theorem dX4_end_4 : decode cX4_end 4 = .ok (.istore 4, 2) := by decide +kernel
theorem dX4_end_6 : decode cX4_end 6 = .ok (.iload 4, 2) := by decide +kernel
theorem dX4_end_8 : decode cX4_end 8 = .ok (.i2l, 1) := by decide +kernel
theorem dX4_end_9 : decode cX4_end 9 = .ok (.iload_n 2, 1) := by decide +kernel
theorem dX4_end_10 : decode cX4_end 10 = .ok (.lshl, 1) := by decide +kernel
theorem dX4_end_11 : decode cX4_end 11 = .ok (.lstore 5, 2) := by decide +kernel
theorem dX4_end_13 : decode cX4_end 13 = .ok (.iload_n 1, 1) := by decide +kernel
theorem dX4_end_14 : decode cX4_end 14 = .ok (.iconst 1, 1) := by decide +kernel
theorem dX4_end_15 : decode cX4_end 15 = .ok (.iload 4, 2) := by decide +kernel
theorem dX4_end_17 : decode cX4_end 17 = .ok (.ishl, 1) := by decide +kernel
theorem dX4_end_18 : decode cX4_end 18 = .ok (.if_icmp .ne 6, 3) := by decide +kernel
theorem dX4_end_21 : decode cX4_end 21 = .ok (.lload 5, 2) := by decide +kernel
theorem dX4_end_23 : decode cX4_end 23 = .ok (.lreturn, 1) := by decide +kernel
theorem dX4_end_24 : decode cX4_end 24 = .ok (.aload_n 0, 1) := by decide +kernel
theorem dX4_end_25 : decode cX4_end 25 = .ok (.iload_n 1, 1) := by decide +kernel
theorem dX4_end_26 : decode cX4_end 26 = .ok (.iload 4, 2) := by decide +kernel
theorem dX4_end_28 : decode cX4_end 28 = .ok (.iload_n 3, 1) := by decide +kernel
theorem dX4_end_29 : decode cX4_end 29 = .ok (.invokevirtual 19, 3) := by decide +kernel
theorem dX4_end_32 : decode cX4_end 32 = .ok (.bipush 24, 2) := by decide +kernel
theorem dX4_end_34 : decode cX4_end 34 = .ok (.iload_n 2, 1) := by decide +kernel
theorem dX4_end_35 : decode cX4_end 35 = .ok (.isub, 1) := by decide +kernel
theorem dX4_end_36 : decode cX4_end 36 = .ok (.ishr, 1) := by decide +kernel
theorem dX4_end_37 : decode cX4_end 37 = .ok (.i2l, 1) := by decide +kernel
theorem dX4_end_38 : decode cX4_end 38 = .ok (.lstore 7, 2) := by decide +kernel
theorem dX4_end_40 : decode cX4_end 40 = .ok (.iload_n 3, 1) := by decide +kernel
theorem dX4_end_41 : decode cX4_end 41 = .ok (.iconst 1, 1) := by decide +kernel
theorem dX4_end_42 : decode cX4_end 42 = .ok (.if_icmp .ne 13, 3) := by decide +kernel
theorem dX4_end_45 : decode cX4_end 45 = .ok (.lload 5, 2) := by decide +kernel
theorem dX4_end_47 : decode cX4_end 47 = .ok (.lload 7, 2) := by decide +kernel
theorem dX4_end_49 : decode cX4_end 49 = .ok (.ladd, 1) := by decide +kernel
theorem dX4_end_50 : decode cX4_end 50 = .ok (.lconst 1, 1) := by decide +kernel
theorem dX4_end_51 : decode cX4_end 51 = .ok (.ladd, 1) := by decide +kernel
theorem dX4_end_52 : decode cX4_end 52 = .ok (.goto 8, 3) := by decide +kernel
theorem dX4_end_55 : decode cX4_end 55 = .ok (.lload 5, 2) := by decide +kernel
theorem dX4_end_57 : decode cX4_end 57 = .ok (.lload 7, 2) := by decide +kernel
theorem dX4_end_59 : decode cX4_end 59 = .ok (.ladd, 1) := by decide +kernel
theorem dX4_end_60 : decode cX4_end 60 = .ok (.lreturn, 1) := by decide +kernel
theorem dX4_greatestPower_0 : decode cX4_greatestPower 0 = .ok (.iconst 0, 1) := by decide +kernel
theorem dX4_greatestPower_1 : decode cX4_greatestPower 1 = .ok (.istore_n 1, 1) := by decide +kernel
theorem dX4_greatestPower_2 : decode cX4_greatestPower 2 = .ok (.iload_n 1, 1) := by decide +kernel
theorem dX4_greatestPower_3 : decode cX4_greatestPower 3 = .ok (.bipush 30, 2) := by decide +kernel
theorem dX4_greatestPower_5 : decode cX4_greatestPower 5 = .ok (.if_icmp .ge 18, 3) := by decide +kernel
theorem dX4_greatestPower_8 : decode cX4_greatestPower 8 = .ok (.iconst 1, 1) := by decide +kernel
theorem dX4_greatestPower_9 : decode cX4_greatestPower 9 = .ok (.iload_n 1, 1) := by decide +kernel
theorem dX4_greatestPower_10 : decode cX4_greatestPower 10 = .ok (.iconst 1, 1) := by decide +kernel
theorem dX4_greatestPower_11 : decode cX4_greatestPower 11 = .ok (.iadd, 1) := by decide +kernel
theorem dX4_greatestPower_12 : decode cX4_greatestPower 12 = .ok (.ishl, 1) := by decide +kernel
theorem dX4_greatestPower_13 : decode cX4_greatestPower 13 = .ok (.iload_n 0, 1) := by decide +kernel
theorem dX4_greatestPower_14 : decode cX4_greatestPower 14 = .ok (.if_icmp .gt 9, 3) := by decide +kernel
theorem dX4_greatestPower_17 : decode cX4_greatestPower 17 = .ok (.iinc 1 1, 3) := by decide +kernel
theorem dX4_greatestPower_20 : decode cX4_greatestPower 20 = .ok (.goto (-18), 3) := by decide +kernel
theorem dX4_greatestPower_23 : decode cX4_greatestPower 23 = .ok (.iload_n 1, 1) := by decide +kernel
theorem dX4_greatestPower_24 : decode cX4_greatestPower 24 = .ok (.ireturn, 1) := by decide +kernel
theorem dX4_fraction_0 : decode cX4_fraction 0 = .ok (.iload_n 1, 1) := by decide +kernel
theorem dX4_fraction_1 : decode cX4_fraction 1 = .ok (.sipush 416, 3) := by decide +kernel
theorem dX4_fraction_4 : decode cX4_fraction 4 = .ok (.if_icmp .lt 10, 3) := by decide +kernel
theorem dX4_fraction_7 : decode cX4_fraction 7 = .ok (.iload_n 1, 1) := by decide +kernel
theorem dX4_fraction_8 : decode cX4_fraction 8 = .ok (.iload_n 2, 1) := by decide +kernel
theorem dX4_fraction_9 : decode cX4_fraction 9 = .ok (.iload_n 3, 1) := by decide +kernel
theorem dX4_fraction_10 : decode cX4_fraction 10 = .ok (.invokestatic 23, 3) := by decide +kernel
theorem dX4_fraction_13 : decode cX4_fraction 13 = .ok (.ireturn, 1) := by decide +kernel
theorem dX4_fraction_14 : decode cX4_fraction 14 = .ok (.iload_n 3, 1) := by decide +kernel
theorem dX4_fraction_15 : decode cX4_fraction 15 = .ok (.iconst 1, 1) := by decide +kernel
theorem dX4_fraction_16 : decode cX4_fraction 16 = .ok (.if_icmp .ne 11, 3) := by decide +kernel
theorem dX4_fraction_19 : decode cX4_fraction 19 = .ok (.sipush 416, 3) := by decide +kernel
theorem dX4_fraction_22 : decode cX4_fraction 22 = .ok (.iload_n 1, 1) := by decide +kernel
theorem dX4_fraction_23 : decode cX4_fraction 23 = .ok (.iadd, 1) := by decide +kernel
theorem dX4_fraction_24 : decode cX4_fraction 24 = .ok (.goto 4, 3) := by decide +kernel
theorem dX4_fraction_27 : decode cX4_fraction 27 = .ok (.iload_n 1, 1) := by decide +kernel
theorem dX4_fraction_28 : decode cX4_fraction 28 = .ok (.istore 4, 2) := by decide +kernel
theorem dX4_fraction_30 : decode cX4_fraction 30 = .ok (.aload_n 0, 1) := by decide +kernel
theorem dX4_fraction_31 : decode cX4_fraction 31 = .ok (.getfield 11, 3) := by decide +kernel
theorem dX4_fraction_34 : decode cX4_fraction 34 = .ok (.iload 4, 2) := by decide +kernel
theorem dX4_fraction_36 : decode cX4_fraction 36 = .ok (.iaload, 1) := by decide +kernel
theorem dX4_fraction_37 : decode cX4_fraction 37 = .ok (.ifCond .ne 18, 3) := by decide +kernel
theorem dX4_fraction_40 : decode cX4_fraction 40 = .ok (.aload_n 0, 1) := by decide +kernel
theorem dX4_fraction_41 : decode cX4_fraction 41 = .ok (.getfield 11, 3) := by decide +kernel
theorem dX4_fraction_44 : decode cX4_fraction 44 = .ok (.iload 4, 2) := by decide +kernel
theorem dX4_fraction_46 : decode cX4_fraction 46 = .ok (.iload_n 1, 1) := by decide +kernel
theorem dX4_fraction_47 : decode cX4_fraction 47 = .ok (.iload_n 2, 1) := by decide +kernel
theorem dX4_fraction_48 : decode cX4_fraction 48 = .ok (.iload_n 3, 1) := by decide +kernel
theorem dX4_fraction_49 : decode cX4_fraction 49 = .ok (.invokestatic 23, 3) := by decide +kernel
theorem dX4_fraction_52 : decode cX4_fraction 52 = .ok (.iconst 1, 1) := by decide +kernel
theorem dX4_fraction_53 : decode cX4_fraction 53 = .ok (.iadd, 1) := by decide +kernel
theorem dX4_fraction_54 : decode cX4_fraction 54 = .ok (.iastore, 1) := by decide +kernel
theorem dX4_fraction_55 : decode cX4_fraction 55 = .ok (.aload_n 0, 1) := by decide +kernel
theorem dX4_fraction_56 : decode cX4_fraction 56 = .ok (.getfield 11, 3) := by decide +kernel
theorem dX4_fraction_59 : decode cX4_fraction 59 = .ok (.iload 4, 2) := by decide +kernel
theorem dX4_fraction_61 : decode cX4_fraction 61 = .ok (.iaload, 1) := by decide +kernel
theorem dX4_fraction_62 : decode cX4_fraction 62 = .ok (.iconst 1, 1) := by decide +kernel
theorem dX4_fraction_63 : decode cX4_fraction 63 = .ok (.isub, 1) := by decide +kernel
theorem dX4_fraction_64 : decode cX4_fraction 64 = .ok (.ireturn, 1) := by decide +kernel
theorem dX4_fractionBits_0 : decode cX4_fractionBits 0 = .ok (.iload_n 2, 1) := by decide +kernel
theorem dX4_fractionBits_1 : decode cX4_fractionBits 1 = .ok (.iconst 1, 1) := by decide +kernel
theorem dX4_fractionBits_2 : decode cX4_fractionBits 2 = .ok (.if_icmp .ne 9, 3) := by decide +kernel
theorem dX4_fractionBits_5 : decode cX4_fractionBits 5 = .ok (.ldc2_w 26, 3) := by decide +kernel
theorem dX4_fractionBits_8 : decode cX4_fractionBits 8 = .ok (.goto 4, 3) := by decide +kernel
theorem dX4_fractionBits_11 : decode cX4_fractionBits 11 = .ok (.lconst 0, 1) := by decide +kernel
theorem dX4_fractionBits_12 : decode cX4_fractionBits 12 = .ok (.lstore_n 3, 1) := by decide +kernel
theorem dX4_fractionBits_13 : decode cX4_fractionBits 13 = .ok (.iload_n 2, 1) := by decide +kernel
theorem dX4_fractionBits_14 : decode cX4_fractionBits 14 = .ok (.iconst 1, 1) := by decide +kernel
theorem dX4_fractionBits_15 : decode cX4_fractionBits 15 = .ok (.if_icmp .ne 7, 3) := by decide +kernel
theorem dX4_fractionBits_18 : decode cX4_fractionBits 18 = .ok (.lconst 1, 1) := by decide +kernel
theorem dX4_fractionBits_19 : decode cX4_fractionBits 19 = .ok (.goto 4, 3) := by decide +kernel
theorem dX4_fractionBits_22 : decode cX4_fractionBits 22 = .ok (.lconst 0, 1) := by decide +kernel
theorem dX4_fractionBits_23 : decode cX4_fractionBits 23 = .ok (.lstore 5, 2) := by decide +kernel
theorem dX4_fractionBits_25 : decode cX4_fractionBits 25 = .ok (.iload_n 0, 1) := by decide +kernel
theorem dX4_fractionBits_26 : decode cX4_fractionBits 26 = .ok (.i2l, 1) := by decide +kernel
theorem dX4_fractionBits_27 : decode cX4_fractionBits 27 = .ok (.bipush 30, 2) := by decide +kernel
theorem dX4_fractionBits_29 : decode cX4_fractionBits 29 = .ok (.iload_n 1, 1) := by decide +kernel
theorem dX4_fractionBits_30 : decode cX4_fractionBits 30 = .ok (.isub, 1) := by decide +kernel
theorem dX4_fractionBits_31 : decode cX4_fractionBits 31 = .ok (.lshl, 1) := by decide +kernel
theorem dX4_fractionBits_32 : decode cX4_fractionBits 32 = .ok (.lstore 7, 2) := by decide +kernel
theorem dX4_fractionBits_34 : decode cX4_fractionBits 34 = .ok (.iconst 0, 1) := by decide +kernel
theorem dX4_fractionBits_35 : decode cX4_fractionBits 35 = .ok (.istore 9, 2) := by decide +kernel
theorem dX4_fractionBits_37 : decode cX4_fractionBits 37 = .ok (.iconst 0, 1) := by decide +kernel
theorem dX4_fractionBits_38 : decode cX4_fractionBits 38 = .ok (.istore 10, 2) := by decide +kernel
theorem dX4_fractionBits_40 : decode cX4_fractionBits 40 = .ok (.iload 10, 2) := by decide +kernel
theorem dX4_fractionBits_42 : decode cX4_fractionBits 42 = .ok (.bipush 24, 2) := by decide +kernel
theorem dX4_fractionBits_44 : decode cX4_fractionBits 44 = .ok (.if_icmp .ge 48, 3) := by decide +kernel
theorem dX4_fractionBits_47 : decode cX4_fractionBits 47 = .ok (.lload 7, 2) := by decide +kernel
theorem dX4_fractionBits_49 : decode cX4_fractionBits 49 = .ok (.lload 7, 2) := by decide +kernel
theorem dX4_fractionBits_51 : decode cX4_fractionBits 51 = .ok (.lmul, 1) := by decide +kernel
theorem dX4_fractionBits_52 : decode cX4_fractionBits 52 = .ok (.lload_n 3, 1) := by decide +kernel
theorem dX4_fractionBits_53 : decode cX4_fractionBits 53 = .ok (.ladd, 1) := by decide +kernel
theorem dX4_fractionBits_54 : decode cX4_fractionBits 54 = .ok (.bipush 30, 2) := by decide +kernel
theorem dX4_fractionBits_56 : decode cX4_fractionBits 56 = .ok (.lshr, 1) := by decide +kernel
theorem dX4_fractionBits_57 : decode cX4_fractionBits 57 = .ok (.lstore 7, 2) := by decide +kernel
theorem dX4_fractionBits_59 : decode cX4_fractionBits 59 = .ok (.iconst 2, 1) := by decide +kernel
theorem dX4_fractionBits_60 : decode cX4_fractionBits 60 = .ok (.iload 9, 2) := by decide +kernel
theorem dX4_fractionBits_62 : decode cX4_fractionBits 62 = .ok (.imul, 1) := by decide +kernel
theorem dX4_fractionBits_63 : decode cX4_fractionBits 63 = .ok (.istore 9, 2) := by decide +kernel
theorem dX4_fractionBits_65 : decode cX4_fractionBits 65 = .ok (.lload 7, 2) := by decide +kernel
theorem dX4_fractionBits_67 : decode cX4_fractionBits 67 = .ok (.ldc2_w 28, 3) := by decide +kernel
theorem dX4_fractionBits_70 : decode cX4_fractionBits 70 = .ok (.lcmp, 1) := by decide +kernel
theorem dX4_fractionBits_71 : decode cX4_fractionBits 71 = .ok (.ifCond .lt 15, 3) := by decide +kernel
theorem dX4_fractionBits_74 : decode cX4_fractionBits 74 = .ok (.iinc 9 1, 3) := by decide +kernel
theorem dX4_fractionBits_77 : decode cX4_fractionBits 77 = .ok (.lload 7, 2) := by decide +kernel
theorem dX4_fractionBits_79 : decode cX4_fractionBits 79 = .ok (.lload 5, 2) := by decide +kernel
theorem dX4_fractionBits_81 : decode cX4_fractionBits 81 = .ok (.ladd, 1) := by decide +kernel
theorem dX4_fractionBits_82 : decode cX4_fractionBits 82 = .ok (.iconst 1, 1) := by decide +kernel
theorem dX4_fractionBits_83 : decode cX4_fractionBits 83 = .ok (.lshr, 1) := by decide +kernel
theorem dX4_fractionBits_84 : decode cX4_fractionBits 84 = .ok (.lstore 7, 2) := by decide +kernel
theorem dX4_fractionBits_86 : decode cX4_fractionBits 86 = .ok (.iinc 10 1, 3) := by decide +kernel
theorem dX4_fractionBits_89 : decode cX4_fractionBits 89 = .ok (.goto (-49), 3) := by decide +kernel
theorem dX4_fractionBits_92 : decode cX4_fractionBits 92 = .ok (.iload 9, 2) := by decide +kernel
theorem dX4_fractionBits_94 : decode cX4_fractionBits 94 = .ok (.ireturn, 1) := by decide +kernel
theorem dX5_init_0 : decode cX5_init 0 = .ok (.aload_n 0, 1) := by decide +kernel
theorem dX5_init_1 : decode cX5_init 1 = .ok (.invokespecial 3, 3) := by decide +kernel
theorem dX5_init_4 : decode cX5_init 4 = .ok (.aload_n 0, 1) := by decide +kernel
theorem dX5_init_5 : decode cX5_init 5 = .ok (.sipush 216, 3) := by decide +kernel
theorem dX5_init_8 : decode cX5_init 8 = .ok (.newarray .int, 2) := by decide +kernel
theorem dX5_init_10 : decode cX5_init 10 = .ok (.putfield 11, 3) := by decide +kernel
theorem dX5_init_13 : decode cX5_init 13 = .ok (.aload_n 0, 1) := by decide +kernel
theorem dX5_init_14 : decode cX5_init 14 = .ok (.sipush 400, 3) := by decide +kernel
theorem dX5_init_17 : decode cX5_init 17 = .ok (.newarray .int, 2) := by decide +kernel
theorem dX5_init_19 : decode cX5_init 19 = .ok (.putfield 15, 3) := by decide +kernel
theorem dX5_init_22 : decode cX5_init 22 = .ok (.aload_n 0, 1) := by decide +kernel
theorem dX5_init_23 : decode cX5_init 23 = .ok (.sipush 400, 3) := by decide +kernel
theorem dX5_init_26 : decode cX5_init 26 = .ok (.newarray .int, 2) := by decide +kernel
theorem dX5_init_28 : decode cX5_init 28 = .ok (.putfield 18, 3) := by decide +kernel
theorem dX5_init_31 : decode cX5_init 31 = .ok (.aload_n 0, 1) := by decide +kernel
theorem dX5_init_32 : decode cX5_init 32 = .ok (.sipush 400, 3) := by decide +kernel
theorem dX5_init_35 : decode cX5_init 35 = .ok (.newarray .int, 2) := by decide +kernel
theorem dX5_init_37 : decode cX5_init 37 = .ok (.putfield 21, 3) := by decide +kernel
theorem dX5_init_40 : decode cX5_init 40 = .ok (.aload_n 0, 1) := by decide +kernel
theorem dX5_init_41 : decode cX5_init 41 = .ok (.sipush 400, 3) := by decide +kernel
theorem dX5_init_44 : decode cX5_init 44 = .ok (.newarray .int, 2) := by decide +kernel
theorem dX5_init_46 : decode cX5_init 46 = .ok (.putfield 24, 3) := by decide +kernel
theorem dX5_init_49 : decode cX5_init 49 = .ok (.aload_n 0, 1) := by decide +kernel
theorem dX5_init_50 : decode cX5_init 50 = .ok (.sipush 400, 3) := by decide +kernel
theorem dX5_init_53 : decode cX5_init 53 = .ok (.newarray .int, 2) := by decide +kernel
theorem dX5_init_55 : decode cX5_init 55 = .ok (.putfield 27, 3) := by decide +kernel
theorem dX5_init_58 : decode cX5_init 58 = .ok (.return_, 1) := by decide +kernel
theorem dX5_tally_0 : decode cX5_tally 0 = .ok (.aload_n 0, 1) := by decide +kernel
theorem dX5_tally_1 : decode cX5_tally 1 = .ok (.getfield 11, 3) := by decide +kernel
theorem dX5_tally_4 : decode cX5_tally 4 = .ok (.bipush (-2), 2) := by decide +kernel
theorem dX5_tally_6 : decode cX5_tally 6 = .ok (.invokestatic 30, 3) := by decide +kernel
theorem dX5_tally_9 : decode cX5_tally 9 = .ok (.aload_n 0, 1) := by decide +kernel
theorem dX5_tally_10 : decode cX5_tally 10 = .ok (.iconst 0, 1) := by decide +kernel
theorem dX5_tally_11 : decode cX5_tally 11 = .ok (.putfield 36, 3) := by decide +kernel
theorem dX5_tally_14 : decode cX5_tally 14 = .ok (.iconst 0, 1) := by decide +kernel
theorem dX5_tally_15 : decode cX5_tally 15 = .ok (.istore_n 3, 1) := by decide +kernel
theorem dX5_tally_16 : decode cX5_tally 16 = .ok (.iload_n 3, 1) := by decide +kernel
theorem dX5_tally_17 : decode cX5_tally 17 = .ok (.iconst 1, 1) := by decide +kernel
theorem dX5_tally_18 : decode cX5_tally 18 = .ok (.iadd, 1) := by decide +kernel
theorem dX5_tally_19 : decode cX5_tally 19 = .ok (.iload_n 2, 1) := by decide +kernel
theorem dX5_tally_20 : decode cX5_tally 20 = .ok (.if_icmp .ge 65, 3) := by decide +kernel
theorem dX5_tally_23 : decode cX5_tally 23 = .ok (.aload_n 0, 1) := by decide +kernel
theorem dX5_tally_24 : decode cX5_tally 24 = .ok (.aload_n 1, 1) := by decide +kernel
theorem dX5_tally_25 : decode cX5_tally 25 = .ok (.iload_n 3, 1) := by decide +kernel
theorem dX5_tally_26 : decode cX5_tally 26 = .ok (.iaload, 1) := by decide +kernel
theorem dX5_tally_27 : decode cX5_tally 27 = .ok (.aload_n 1, 1) := by decide +kernel
theorem dX5_tally_28 : decode cX5_tally 28 = .ok (.iload_n 3, 1) := by decide +kernel
theorem dX5_tally_29 : decode cX5_tally 29 = .ok (.iconst 1, 1) := by decide +kernel
theorem dX5_tally_30 : decode cX5_tally 30 = .ok (.iadd, 1) := by decide +kernel
theorem dX5_tally_31 : decode cX5_tally 31 = .ok (.iaload, 1) := by decide +kernel
theorem dX5_tally_32 : decode cX5_tally 32 = .ok (.invokevirtual 40, 3) := by decide +kernel
theorem dX5_tally_35 : decode cX5_tally 35 = .ok (.istore 4, 2) := by decide +kernel
theorem dX5_tally_37 : decode cX5_tally 37 = .ok (.aload_n 0, 1) := by decide +kernel
theorem dX5_tally_38 : decode cX5_tally 38 = .ok (.getfield 24, 3) := by decide +kernel
theorem dX5_tally_41 : decode cX5_tally 41 = .ok (.iload 4, 2) := by decide +kernel
theorem dX5_tally_43 : decode cX5_tally 43 = .ok (.iaload, 1) := by decide +kernel
theorem dX5_tally_44 : decode cX5_tally 44 = .ok (.ifCond .eq 16, 3) := by decide +kernel
theorem dX5_tally_47 : decode cX5_tally 47 = .ok (.aload_n 0, 1) := by decide +kernel
theorem dX5_tally_48 : decode cX5_tally 48 = .ok (.getfield 27, 3) := by decide +kernel
theorem dX5_tally_51 : decode cX5_tally 51 = .ok (.iload 4, 2) := by decide +kernel
theorem dX5_tally_53 : decode cX5_tally 53 = .ok (.iaload, 1) := by decide +kernel
theorem dX5_tally_54 : decode cX5_tally 54 = .ok (.iconst 1, 1) := by decide +kernel
theorem dX5_tally_55 : decode cX5_tally 55 = .ok (.iadd, 1) := by decide +kernel
theorem dX5_tally_56 : decode cX5_tally 56 = .ok (.iload_n 3, 1) := by decide +kernel
theorem dX5_tally_57 : decode cX5_tally 57 = .ok (.if_icmp .ge 22, 3) := by decide +kernel
theorem dX5_tally_60 : decode cX5_tally 60 = .ok (.aload_n 0, 1) := by decide +kernel
theorem dX5_tally_61 : decode cX5_tally 61 = .ok (.getfield 24, 3) := by decide +kernel
theorem dX5_tally_64 : decode cX5_tally 64 = .ok (.iload 4, 2) := by decide +kernel
theorem dX5_tally_66 : decode cX5_tally 66 = .ok (.dup2, 1) := by decide +kernel
theorem dX5_tally_67 : decode cX5_tally 67 = .ok (.iaload, 1) := by decide +kernel
theorem dX5_tally_68 : decode cX5_tally 68 = .ok (.iconst 1, 1) := by decide +kernel
theorem dX5_tally_69 : decode cX5_tally 69 = .ok (.iadd, 1) := by decide +kernel
theorem dX5_tally_70 : decode cX5_tally 70 = .ok (.iastore, 1) := by decide +kernel
theorem dX5_tally_71 : decode cX5_tally 71 = .ok (.aload_n 0, 1) := by decide +kernel
theorem dX5_tally_72 : decode cX5_tally 72 = .ok (.getfield 27, 3) := by decide +kernel
theorem dX5_tally_75 : decode cX5_tally 75 = .ok (.iload 4, 2) := by decide +kernel
theorem dX5_tally_77 : decode cX5_tally 77 = .ok (.iload_n 3, 1) := by decide +kernel
theorem dX5_tally_78 : decode cX5_tally 78 = .ok (.iastore, 1) := by decide +kernel
theorem dX5_tally_79 : decode cX5_tally 79 = .ok (.iinc 3 1, 3) := by decide +kernel
theorem dX5_tally_82 : decode cX5_tally 82 = .ok (.goto (-66), 3) := by decide +kernel
theorem dX5_tally_85 : decode cX5_tally 85 = .ok (.return_, 1) := by decide +kernel
theorem dX5_best_0 : decode cX5_best 0 = .ok (.bipush (-2), 2) := by decide +kernel
theorem dX5_best_2 : decode cX5_best 2 = .ok (.istore_n 1, 1) := by decide +kernel
theorem dX5_best_3 : decode cX5_best 3 = .ok (.iconst 0, 1) := by decide +kernel
theorem dX5_best_4 : decode cX5_best 4 = .ok (.istore_n 2, 1) := by decide +kernel
theorem dX5_best_5 : decode cX5_best 5 = .ok (.iload_n 2, 1) := by decide +kernel
theorem dX5_best_6 : decode cX5_best 6 = .ok (.aload_n 0, 1) := by decide +kernel
theorem dX5_best_7 : decode cX5_best 7 = .ok (.getfield 36, 3) := by decide +kernel
theorem dX5_best_10 : decode cX5_best 10 = .ok (.if_icmp .ge 36, 3) := by decide +kernel
theorem dX5_best_13 : decode cX5_best 13 = .ok (.aload_n 0, 1) := by decide +kernel
theorem dX5_best_14 : decode cX5_best 14 = .ok (.getfield 24, 3) := by decide +kernel
theorem dX5_best_17 : decode cX5_best 17 = .ok (.iload_n 2, 1) := by decide +kernel
theorem dX5_best_18 : decode cX5_best 18 = .ok (.iaload, 1) := by decide +kernel
theorem dX5_best_19 : decode cX5_best 19 = .ok (.iconst 2, 1) := by decide +kernel
theorem dX5_best_20 : decode cX5_best 20 = .ok (.if_icmp .lt 20, 3) := by decide +kernel
theorem dX5_best_23 : decode cX5_best 23 = .ok (.iload_n 1, 1) := by decide +kernel
theorem dX5_best_24 : decode cX5_best 24 = .ok (.bipush (-2), 2) := by decide +kernel
theorem dX5_best_26 : decode cX5_best 26 = .ok (.if_icmp .eq 12, 3) := by decide +kernel
theorem dX5_best_29 : decode cX5_best 29 = .ok (.aload_n 0, 1) := by decide +kernel
theorem dX5_best_30 : decode cX5_best 30 = .ok (.iload_n 2, 1) := by decide +kernel
theorem dX5_best_31 : decode cX5_best 31 = .ok (.iload_n 1, 1) := by decide +kernel
theorem dX5_best_32 : decode cX5_best 32 = .ok (.invokevirtual 44, 3) := by decide +kernel
theorem dX5_best_35 : decode cX5_best 35 = .ok (.ifCond .eq 5, 3) := by decide +kernel
theorem dX5_best_38 : decode cX5_best 38 = .ok (.iload_n 2, 1) := by decide +kernel
theorem dX5_best_39 : decode cX5_best 39 = .ok (.istore_n 1, 1) := by decide +kernel
theorem dX5_best_40 : decode cX5_best 40 = .ok (.iinc 2 1, 3) := by decide +kernel
theorem dX5_best_43 : decode cX5_best 43 = .ok (.goto (-38), 3) := by decide +kernel
theorem dX5_best_46 : decode cX5_best 46 = .ok (.iload_n 1, 1) := by decide +kernel
theorem dX5_best_47 : decode cX5_best 47 = .ok (.ireturn, 1) := by decide +kernel
theorem dX5_goesBefore_0 : decode cX5_goesBefore 0 = .ok (.aload_n 0, 1) := by decide +kernel
theorem dX5_goesBefore_1 : decode cX5_goesBefore 1 = .ok (.getfield 24, 3) := by decide +kernel
theorem dX5_goesBefore_4 : decode cX5_goesBefore 4 = .ok (.iload_n 1, 1) := by decide +kernel
theorem dX5_goesBefore_5 : decode cX5_goesBefore 5 = .ok (.iaload, 1) := by decide +kernel
theorem dX5_goesBefore_6 : decode cX5_goesBefore 6 = .ok (.aload_n 0, 1) := by decide +kernel
theorem dX5_goesBefore_7 : decode cX5_goesBefore 7 = .ok (.getfield 24, 3) := by decide +kernel
theorem dX5_goesBefore_10 : decode cX5_goesBefore 10 = .ok (.iload_n 2, 1) := by decide +kernel
theorem dX5_goesBefore_11 : decode cX5_goesBefore 11 = .ok (.iaload, 1) := by decide +kernel
theorem dX5_goesBefore_12 : decode cX5_goesBefore 12 = .ok (.if_icmp .eq 24, 3) := by decide +kernel
theorem dX5_goesBefore_15 : decode cX5_goesBefore 15 = .ok (.aload_n 0, 1) := by decide +kernel
theorem dX5_goesBefore_16 : decode cX5_goesBefore 16 = .ok (.getfield 24, 3) := by decide +kernel
theorem dX5_goesBefore_19 : decode cX5_goesBefore 19 = .ok (.iload_n 1, 1) := by decide +kernel
theorem dX5_goesBefore_20 : decode cX5_goesBefore 20 = .ok (.iaload, 1) := by decide +kernel
theorem dX5_goesBefore_21 : decode cX5_goesBefore 21 = .ok (.aload_n 0, 1) := by decide +kernel
theorem dX5_goesBefore_22 : decode cX5_goesBefore 22 = .ok (.getfield 24, 3) := by decide +kernel
theorem dX5_goesBefore_25 : decode cX5_goesBefore 25 = .ok (.iload_n 2, 1) := by decide +kernel
theorem dX5_goesBefore_26 : decode cX5_goesBefore 26 = .ok (.iaload, 1) := by decide +kernel
theorem dX5_goesBefore_27 : decode cX5_goesBefore 27 = .ok (.if_icmp .le 7, 3) := by decide +kernel
theorem dX5_goesBefore_30 : decode cX5_goesBefore 30 = .ok (.iconst 1, 1) := by decide +kernel
theorem dX5_goesBefore_31 : decode cX5_goesBefore 31 = .ok (.goto 4, 3) := by decide +kernel
theorem dX5_goesBefore_34 : decode cX5_goesBefore 34 = .ok (.iconst 0, 1) := by decide +kernel
theorem dX5_goesBefore_35 : decode cX5_goesBefore 35 = .ok (.ireturn, 1) := by decide +kernel
theorem dX5_goesBefore_36 : decode cX5_goesBefore 36 = .ok (.aload_n 0, 1) := by decide +kernel
theorem dX5_goesBefore_37 : decode cX5_goesBefore 37 = .ok (.getfield 18, 3) := by decide +kernel
theorem dX5_goesBefore_40 : decode cX5_goesBefore 40 = .ok (.iload_n 1, 1) := by decide +kernel
theorem dX5_goesBefore_41 : decode cX5_goesBefore 41 = .ok (.iaload, 1) := by decide +kernel
theorem dX5_goesBefore_42 : decode cX5_goesBefore 42 = .ok (.aload_n 0, 1) := by decide +kernel
theorem dX5_goesBefore_43 : decode cX5_goesBefore 43 = .ok (.getfield 18, 3) := by decide +kernel
theorem dX5_goesBefore_46 : decode cX5_goesBefore 46 = .ok (.iload_n 2, 1) := by decide +kernel
theorem dX5_goesBefore_47 : decode cX5_goesBefore 47 = .ok (.iaload, 1) := by decide +kernel
theorem dX5_goesBefore_48 : decode cX5_goesBefore 48 = .ok (.if_icmp .eq 24, 3) := by decide +kernel
theorem dX5_goesBefore_51 : decode cX5_goesBefore 51 = .ok (.aload_n 0, 1) := by decide +kernel
theorem dX5_goesBefore_52 : decode cX5_goesBefore 52 = .ok (.getfield 18, 3) := by decide +kernel
theorem dX5_goesBefore_55 : decode cX5_goesBefore 55 = .ok (.iload_n 1, 1) := by decide +kernel
theorem dX5_goesBefore_56 : decode cX5_goesBefore 56 = .ok (.iaload, 1) := by decide +kernel
theorem dX5_goesBefore_57 : decode cX5_goesBefore 57 = .ok (.aload_n 0, 1) := by decide +kernel
theorem dX5_goesBefore_58 : decode cX5_goesBefore 58 = .ok (.getfield 18, 3) := by decide +kernel
theorem dX5_goesBefore_61 : decode cX5_goesBefore 61 = .ok (.iload_n 2, 1) := by decide +kernel
theorem dX5_goesBefore_62 : decode cX5_goesBefore 62 = .ok (.iaload, 1) := by decide +kernel
theorem dX5_goesBefore_63 : decode cX5_goesBefore 63 = .ok (.if_icmp .ge 7, 3) := by decide +kernel
theorem dX5_goesBefore_66 : decode cX5_goesBefore 66 = .ok (.iconst 1, 1) := by decide +kernel
theorem dX5_goesBefore_67 : decode cX5_goesBefore 67 = .ok (.goto 4, 3) := by decide +kernel
theorem dX5_goesBefore_70 : decode cX5_goesBefore 70 = .ok (.iconst 0, 1) := by decide +kernel
theorem dX5_goesBefore_71 : decode cX5_goesBefore 71 = .ok (.ireturn, 1) := by decide +kernel
theorem dX5_goesBefore_72 : decode cX5_goesBefore 72 = .ok (.aload_n 0, 1) := by decide +kernel
theorem dX5_goesBefore_73 : decode cX5_goesBefore 73 = .ok (.getfield 21, 3) := by decide +kernel
theorem dX5_goesBefore_76 : decode cX5_goesBefore 76 = .ok (.iload_n 1, 1) := by decide +kernel
theorem dX5_goesBefore_77 : decode cX5_goesBefore 77 = .ok (.iaload, 1) := by decide +kernel
theorem dX5_goesBefore_78 : decode cX5_goesBefore 78 = .ok (.aload_n 0, 1) := by decide +kernel
theorem dX5_goesBefore_79 : decode cX5_goesBefore 79 = .ok (.getfield 21, 3) := by decide +kernel
theorem dX5_goesBefore_82 : decode cX5_goesBefore 82 = .ok (.iload_n 2, 1) := by decide +kernel
theorem dX5_goesBefore_83 : decode cX5_goesBefore 83 = .ok (.iaload, 1) := by decide +kernel
theorem dX5_goesBefore_84 : decode cX5_goesBefore 84 = .ok (.if_icmp .ge 7, 3) := by decide +kernel
theorem dX5_goesBefore_87 : decode cX5_goesBefore 87 = .ok (.iconst 1, 1) := by decide +kernel
theorem dX5_goesBefore_88 : decode cX5_goesBefore 88 = .ok (.goto 4, 3) := by decide +kernel
theorem dX5_goesBefore_91 : decode cX5_goesBefore 91 = .ok (.iconst 0, 1) := by decide +kernel
theorem dX5_goesBefore_92 : decode cX5_goesBefore 92 = .ok (.ireturn, 1) := by decide +kernel
theorem dX5_pairOf_0 : decode cX5_pairOf 0 = .ok (.aload_n 0, 1) := by decide +kernel
theorem dX5_pairOf_1 : decode cX5_pairOf 1 = .ok (.getfield 11, 3) := by decide +kernel
theorem dX5_pairOf_4 : decode cX5_pairOf 4 = .ok (.iload_n 1, 1) := by decide +kernel
theorem dX5_pairOf_5 : decode cX5_pairOf 5 = .ok (.iaload, 1) := by decide +kernel
theorem dX5_pairOf_6 : decode cX5_pairOf 6 = .ok (.istore_n 3, 1) := by decide +kernel
theorem dX5_pairOf_7 : decode cX5_pairOf 7 = .ok (.iconst 0, 1) := by decide +kernel
theorem dX5_pairOf_8 : decode cX5_pairOf 8 = .ok (.istore 4, 2) := by decide +kernel
theorem dX5_pairOf_10 : decode cX5_pairOf 10 = .ok (.iload 4, 2) := by decide +kernel
theorem dX5_pairOf_12 : decode cX5_pairOf 12 = .ok (.aload_n 0, 1) := by decide +kernel
theorem dX5_pairOf_13 : decode cX5_pairOf 13 = .ok (.getfield 36, 3) := by decide +kernel
theorem dX5_pairOf_16 : decode cX5_pairOf 16 = .ok (.if_icmp .ge 34, 3) := by decide +kernel
theorem dX5_pairOf_19 : decode cX5_pairOf 19 = .ok (.iload_n 3, 1) := by decide +kernel
theorem dX5_pairOf_20 : decode cX5_pairOf 20 = .ok (.bipush (-2), 2) := by decide +kernel
theorem dX5_pairOf_22 : decode cX5_pairOf 22 = .ok (.if_icmp .eq 28, 3) := by decide +kernel
theorem dX5_pairOf_25 : decode cX5_pairOf 25 = .ok (.aload_n 0, 1) := by decide +kernel
theorem dX5_pairOf_26 : decode cX5_pairOf 26 = .ok (.getfield 21, 3) := by decide +kernel
theorem dX5_pairOf_29 : decode cX5_pairOf 29 = .ok (.iload_n 3, 1) := by decide +kernel
theorem dX5_pairOf_30 : decode cX5_pairOf 30 = .ok (.iaload, 1) := by decide +kernel
theorem dX5_pairOf_31 : decode cX5_pairOf 31 = .ok (.iload_n 2, 1) := by decide +kernel
theorem dX5_pairOf_32 : decode cX5_pairOf 32 = .ok (.if_icmp .ne 5, 3) := by decide +kernel
theorem dX5_pairOf_35 : decode cX5_pairOf 35 = .ok (.iload_n 3, 1) := by decide +kernel
theorem dX5_pairOf_36 : decode cX5_pairOf 36 = .ok (.ireturn, 1) := by decide +kernel
theorem dX5_pairOf_37 : decode cX5_pairOf 37 = .ok (.aload_n 0, 1) := by decide +kernel
theorem dX5_pairOf_38 : decode cX5_pairOf 38 = .ok (.getfield 15, 3) := by decide +kernel
theorem dX5_pairOf_41 : decode cX5_pairOf 41 = .ok (.iload_n 3, 1) := by decide +kernel
theorem dX5_pairOf_42 : decode cX5_pairOf 42 = .ok (.iaload, 1) := by decide +kernel
theorem dX5_pairOf_43 : decode cX5_pairOf 43 = .ok (.istore_n 3, 1) := by decide +kernel
theorem dX5_pairOf_44 : decode cX5_pairOf 44 = .ok (.iinc 4 1, 3) := by decide +kernel
theorem dX5_pairOf_47 : decode cX5_pairOf 47 = .ok (.goto (-37), 3) := by decide +kernel
theorem dX5_pairOf_50 : decode cX5_pairOf 50 = .ok (.aload_n 0, 1) := by decide +kernel
theorem dX5_pairOf_51 : decode cX5_pairOf 51 = .ok (.getfield 18, 3) := by decide +kernel
theorem dX5_pairOf_54 : decode cX5_pairOf 54 = .ok (.aload_n 0, 1) := by decide +kernel
theorem dX5_pairOf_55 : decode cX5_pairOf 55 = .ok (.getfield 36, 3) := by decide +kernel
theorem dX5_pairOf_58 : decode cX5_pairOf 58 = .ok (.iload_n 1, 1) := by decide +kernel
theorem dX5_pairOf_59 : decode cX5_pairOf 59 = .ok (.iastore, 1) := by decide +kernel
theorem dX5_pairOf_60 : decode cX5_pairOf 60 = .ok (.aload_n 0, 1) := by decide +kernel
theorem dX5_pairOf_61 : decode cX5_pairOf 61 = .ok (.getfield 21, 3) := by decide +kernel
theorem dX5_pairOf_64 : decode cX5_pairOf 64 = .ok (.aload_n 0, 1) := by decide +kernel
theorem dX5_pairOf_65 : decode cX5_pairOf 65 = .ok (.getfield 36, 3) := by decide +kernel
theorem dX5_pairOf_68 : decode cX5_pairOf 68 = .ok (.iload_n 2, 1) := by decide +kernel
theorem dX5_pairOf_69 : decode cX5_pairOf 69 = .ok (.iastore, 1) := by decide +kernel
theorem dX5_pairOf_70 : decode cX5_pairOf 70 = .ok (.aload_n 0, 1) := by decide +kernel
theorem dX5_pairOf_71 : decode cX5_pairOf 71 = .ok (.getfield 24, 3) := by decide +kernel
theorem dX5_pairOf_74 : decode cX5_pairOf 74 = .ok (.aload_n 0, 1) := by decide +kernel
theorem dX5_pairOf_75 : decode cX5_pairOf 75 = .ok (.getfield 36, 3) := by decide +kernel
theorem dX5_pairOf_78 : decode cX5_pairOf 78 = .ok (.iconst 0, 1) := by decide +kernel
theorem dX5_pairOf_79 : decode cX5_pairOf 79 = .ok (.iastore, 1) := by decide +kernel
theorem dX5_pairOf_80 : decode cX5_pairOf 80 = .ok (.aload_n 0, 1) := by decide +kernel
theorem dX5_pairOf_81 : decode cX5_pairOf 81 = .ok (.getfield 15, 3) := by decide +kernel
theorem dX5_pairOf_84 : decode cX5_pairOf 84 = .ok (.aload_n 0, 1) := by decide +kernel
theorem dX5_pairOf_85 : decode cX5_pairOf 85 = .ok (.getfield 36, 3) := by decide +kernel
theorem dX5_pairOf_88 : decode cX5_pairOf 88 = .ok (.aload_n 0, 1) := by decide +kernel
theorem dX5_pairOf_89 : decode cX5_pairOf 89 = .ok (.getfield 11, 3) := by decide +kernel
theorem dX5_pairOf_92 : decode cX5_pairOf 92 = .ok (.iload_n 1, 1) := by decide +kernel
theorem dX5_pairOf_93 : decode cX5_pairOf 93 = .ok (.iaload, 1) := by decide +kernel
theorem dX5_pairOf_94 : decode cX5_pairOf 94 = .ok (.iastore, 1) := by decide +kernel
theorem dX5_pairOf_95 : decode cX5_pairOf 95 = .ok (.aload_n 0, 1) := by decide +kernel
theorem dX5_pairOf_96 : decode cX5_pairOf 96 = .ok (.getfield 11, 3) := by decide +kernel
theorem dX5_pairOf_99 : decode cX5_pairOf 99 = .ok (.iload_n 1, 1) := by decide +kernel
theorem dX5_pairOf_100 : decode cX5_pairOf 100 = .ok (.aload_n 0, 1) := by decide +kernel
theorem dX5_pairOf_101 : decode cX5_pairOf 101 = .ok (.getfield 36, 3) := by decide +kernel
theorem dX5_pairOf_104 : decode cX5_pairOf 104 = .ok (.iastore, 1) := by decide +kernel
theorem dX5_pairOf_105 : decode cX5_pairOf 105 = .ok (.aload_n 0, 1) := by decide +kernel
theorem dX5_pairOf_106 : decode cX5_pairOf 106 = .ok (.dup, 1) := by decide +kernel
theorem dX5_pairOf_107 : decode cX5_pairOf 107 = .ok (.getfield 36, 3) := by decide +kernel
theorem dX5_pairOf_110 : decode cX5_pairOf 110 = .ok (.dup_x1, 1) := by decide +kernel
theorem dX5_pairOf_111 : decode cX5_pairOf 111 = .ok (.iconst 1, 1) := by decide +kernel
theorem dX5_pairOf_112 : decode cX5_pairOf 112 = .ok (.iadd, 1) := by decide +kernel
theorem dX5_pairOf_113 : decode cX5_pairOf 113 = .ok (.putfield 36, 3) := by decide +kernel
theorem dX5_pairOf_116 : decode cX5_pairOf 116 = .ok (.ireturn, 1) := by decide +kernel
theorem dX6_init_0 : decode cX6_init 0 = .ok (.aload_n 0, 1) := by decide +kernel
theorem dX6_init_1 : decode cX6_init 1 = .ok (.invokespecial 3, 3) := by decide +kernel
theorem dX6_init_4 : decode cX6_init 4 = .ok (.return_, 1) := by decide +kernel
theorem dX6_cut_0 : decode cX6_cut 0 = .ok (.iconst 0, 1) := by decide +kernel
theorem dX6_cut_1 : decode cX6_cut 1 = .ok (.istore_n 2, 1) := by decide +kernel
theorem dX6_cut_2 : decode cX6_cut 2 = .ok (.bipush (-2), 2) := by decide +kernel
theorem dX6_cut_4 : decode cX6_cut 4 = .ok (.istore_n 3, 1) := by decide +kernel
theorem dX6_cut_5 : decode cX6_cut 5 = .ok (.iconst 0, 1) := by decide +kernel
theorem dX6_cut_6 : decode cX6_cut 6 = .ok (.istore 4, 2) := by decide +kernel
theorem dX6_cut_8 : decode cX6_cut 8 = .ok (.iload 4, 2) := by decide +kernel
theorem dX6_cut_10 : decode cX6_cut 10 = .ok (.aload_n 1, 1) := by decide +kernel
theorem dX6_cut_11 : decode cX6_cut 11 = .ok (.getfield 9, 3) := by decide +kernel
theorem dX6_cut_14 : decode cX6_cut 14 = .ok (.if_icmp .ge 51, 3) := by decide +kernel
theorem dX6_cut_17 : decode cX6_cut 17 = .ok (.aload_n 0, 1) := by decide +kernel
theorem dX6_cut_18 : decode cX6_cut 18 = .ok (.aload_n 1, 1) := by decide +kernel
theorem dX6_cut_19 : decode cX6_cut 19 = .ok (.iload_n 3, 1) := by decide +kernel
theorem dX6_cut_20 : decode cX6_cut 20 = .ok (.aload_n 1, 1) := by decide +kernel
theorem dX6_cut_21 : decode cX6_cut 21 = .ok (.getfield 15, 3) := by decide +kernel
theorem dX6_cut_24 : decode cX6_cut 24 = .ok (.iload 4, 2) := by decide +kernel
theorem dX6_cut_26 : decode cX6_cut 26 = .ok (.iaload, 1) := by decide +kernel
theorem dX6_cut_27 : decode cX6_cut 27 = .ok (.invokevirtual 19, 3) := by decide +kernel
theorem dX6_cut_30 : decode cX6_cut 30 = .ok (.istore 5, 2) := by decide +kernel
theorem dX6_cut_32 : decode cX6_cut 32 = .ok (.iload 5, 2) := by decide +kernel
theorem dX6_cut_34 : decode cX6_cut 34 = .ok (.bipush (-2), 2) := by decide +kernel
theorem dX6_cut_36 : decode cX6_cut 36 = .ok (.if_icmp .ne 20, 3) := by decide +kernel
theorem dX6_cut_39 : decode cX6_cut 39 = .ok (.aload_n 0, 1) := by decide +kernel
theorem dX6_cut_40 : decode cX6_cut 40 = .ok (.iload_n 2, 1) := by decide +kernel
theorem dX6_cut_41 : decode cX6_cut 41 = .ok (.iload 4, 2) := by decide +kernel
theorem dX6_cut_43 : decode cX6_cut 43 = .ok (.iconst 1, 1) := by decide +kernel
theorem dX6_cut_44 : decode cX6_cut 44 = .ok (.iadd, 1) := by decide +kernel
theorem dX6_cut_45 : decode cX6_cut 45 = .ok (.iload_n 2, 1) := by decide +kernel
theorem dX6_cut_46 : decode cX6_cut 46 = .ok (.isub, 1) := by decide +kernel
theorem dX6_cut_47 : decode cX6_cut 47 = .ok (.iload_n 3, 1) := by decide +kernel
theorem dX6_cut_48 : decode cX6_cut 48 = .ok (.invokevirtual 25, 3) := by decide +kernel
theorem dX6_cut_51 : decode cX6_cut 51 = .ok (.iload 4, 2) := by decide +kernel
theorem dX6_cut_53 : decode cX6_cut 53 = .ok (.iconst 1, 1) := by decide +kernel
theorem dX6_cut_54 : decode cX6_cut 54 = .ok (.iadd, 1) := by decide +kernel
theorem dX6_cut_55 : decode cX6_cut 55 = .ok (.istore_n 2, 1) := by decide +kernel
theorem dX6_cut_56 : decode cX6_cut 56 = .ok (.iload 5, 2) := by decide +kernel
theorem dX6_cut_58 : decode cX6_cut 58 = .ok (.istore_n 3, 1) := by decide +kernel
theorem dX6_cut_59 : decode cX6_cut 59 = .ok (.iinc 4 1, 3) := by decide +kernel
theorem dX6_cut_62 : decode cX6_cut 62 = .ok (.goto (-54), 3) := by decide +kernel
theorem dX6_cut_65 : decode cX6_cut 65 = .ok (.iload_n 2, 1) := by decide +kernel
theorem dX6_cut_66 : decode cX6_cut 66 = .ok (.aload_n 1, 1) := by decide +kernel
theorem dX6_cut_67 : decode cX6_cut 67 = .ok (.getfield 9, 3) := by decide +kernel
theorem dX6_cut_70 : decode cX6_cut 70 = .ok (.if_icmp .ge 15, 3) := by decide +kernel
theorem dX6_cut_73 : decode cX6_cut 73 = .ok (.aload_n 0, 1) := by decide +kernel
theorem dX6_cut_74 : decode cX6_cut 74 = .ok (.iload_n 2, 1) := by decide +kernel
theorem dX6_cut_75 : decode cX6_cut 75 = .ok (.aload_n 1, 1) := by decide +kernel
theorem dX6_cut_76 : decode cX6_cut 76 = .ok (.getfield 9, 3) := by decide +kernel
theorem dX6_cut_79 : decode cX6_cut 79 = .ok (.iload_n 2, 1) := by decide +kernel
theorem dX6_cut_80 : decode cX6_cut 80 = .ok (.isub, 1) := by decide +kernel
theorem dX6_cut_81 : decode cX6_cut 81 = .ok (.iload_n 3, 1) := by decide +kernel
theorem dX6_cut_82 : decode cX6_cut 82 = .ok (.invokevirtual 25, 3) := by decide +kernel
theorem dX6_cut_85 : decode cX6_cut 85 = .ok (.return_, 1) := by decide +kernel
theorem dX6_findPhrase_0 : decode cX6_findPhrase 0 = .ok (.iconst 0, 1) := by decide +kernel
theorem dX6_findPhrase_1 : decode cX6_findPhrase 1 = .ok (.istore 4, 2) := by decide +kernel
theorem dX6_findPhrase_3 : decode cX6_findPhrase 3 = .ok (.iload 4, 2) := by decide +kernel
theorem dX6_findPhrase_5 : decode cX6_findPhrase 5 = .ok (.aload_n 0, 1) := by decide +kernel
theorem dX6_findPhrase_6 : decode cX6_findPhrase 6 = .ok (.getfield 29, 3) := by decide +kernel
theorem dX6_findPhrase_9 : decode cX6_findPhrase 9 = .ok (.if_icmp .ge 53, 3) := by decide +kernel
theorem dX6_findPhrase_12 : decode cX6_findPhrase 12 = .ok (.aload_n 0, 1) := by decide +kernel
theorem dX6_findPhrase_13 : decode cX6_findPhrase 13 = .ok (.getfield 32, 3) := by decide +kernel
theorem dX6_findPhrase_16 : decode cX6_findPhrase 16 = .ok (.iload 4, 2) := by decide +kernel
theorem dX6_findPhrase_18 : decode cX6_findPhrase 18 = .ok (.iaload, 1) := by decide +kernel
theorem dX6_findPhrase_19 : decode cX6_findPhrase 19 = .ok (.aload_n 0, 1) := by decide +kernel
theorem dX6_findPhrase_20 : decode cX6_findPhrase 20 = .ok (.getfield 35, 3) := by decide +kernel
theorem dX6_findPhrase_23 : decode cX6_findPhrase 23 = .ok (.iload 4, 2) := by decide +kernel
theorem dX6_findPhrase_25 : decode cX6_findPhrase 25 = .ok (.iaload, 1) := by decide +kernel
theorem dX6_findPhrase_26 : decode cX6_findPhrase 26 = .ok (.iadd, 1) := by decide +kernel
theorem dX6_findPhrase_27 : decode cX6_findPhrase 27 = .ok (.iconst 1, 1) := by decide +kernel
theorem dX6_findPhrase_28 : decode cX6_findPhrase 28 = .ok (.isub, 1) := by decide +kernel
theorem dX6_findPhrase_29 : decode cX6_findPhrase 29 = .ok (.istore 5, 2) := by decide +kernel
theorem dX6_findPhrase_31 : decode cX6_findPhrase 31 = .ok (.aload_n 0, 1) := by decide +kernel
theorem dX6_findPhrase_32 : decode cX6_findPhrase 32 = .ok (.getfield 38, 3) := by decide +kernel
theorem dX6_findPhrase_35 : decode cX6_findPhrase 35 = .ok (.iload 4, 2) := by decide +kernel
theorem dX6_findPhrase_37 : decode cX6_findPhrase 37 = .ok (.iaload, 1) := by decide +kernel
theorem dX6_findPhrase_38 : decode cX6_findPhrase 38 = .ok (.iload_n 2, 1) := by decide +kernel
theorem dX6_findPhrase_39 : decode cX6_findPhrase 39 = .ok (.if_icmp .ne 17, 3) := by decide +kernel
theorem dX6_findPhrase_42 : decode cX6_findPhrase 42 = .ok (.aload_n 1, 1) := by decide +kernel
theorem dX6_findPhrase_43 : decode cX6_findPhrase 43 = .ok (.getfield 15, 3) := by decide +kernel
theorem dX6_findPhrase_46 : decode cX6_findPhrase 46 = .ok (.iload 5, 2) := by decide +kernel
theorem dX6_findPhrase_48 : decode cX6_findPhrase 48 = .ok (.iaload, 1) := by decide +kernel
theorem dX6_findPhrase_49 : decode cX6_findPhrase 49 = .ok (.iload_n 3, 1) := by decide +kernel
theorem dX6_findPhrase_50 : decode cX6_findPhrase 50 = .ok (.if_icmp .ne 6, 3) := by decide +kernel
theorem dX6_findPhrase_53 : decode cX6_findPhrase 53 = .ok (.iload 4, 2) := by decide +kernel
theorem dX6_findPhrase_55 : decode cX6_findPhrase 55 = .ok (.ireturn, 1) := by decide +kernel
theorem dX6_findPhrase_56 : decode cX6_findPhrase 56 = .ok (.iinc 4 1, 3) := by decide +kernel
theorem dX6_findPhrase_59 : decode cX6_findPhrase 59 = .ok (.goto (-56), 3) := by decide +kernel
theorem dX6_findPhrase_62 : decode cX6_findPhrase 62 = .ok (.bipush (-2), 2) := by decide +kernel
theorem dX6_findPhrase_64 : decode cX6_findPhrase 64 = .ok (.ireturn, 1) := by decide +kernel
theorem dX7_init_0 : decode cX7_init 0 = .ok (.aload_n 0, 1) := by decide +kernel
theorem dX7_init_1 : decode cX7_init 1 = .ok (.invokespecial 3, 3) := by decide +kernel
theorem dX7_init_4 : decode cX7_init 4 = .ok (.aload_n 0, 1) := by decide +kernel
theorem dX7_init_5 : decode cX7_init 5 = .ok (.sipush 400, 3) := by decide +kernel
theorem dX7_init_8 : decode cX7_init 8 = .ok (.newarray .int, 2) := by decide +kernel
theorem dX7_init_10 : decode cX7_init 10 = .ok (.putfield 9, 3) := by decide +kernel
theorem dX7_init_13 : decode cX7_init 13 = .ok (.aload_n 0, 1) := by decide +kernel
theorem dX7_init_14 : decode cX7_init 14 = .ok (.sipush 400, 3) := by decide +kernel
theorem dX7_init_17 : decode cX7_init 17 = .ok (.newarray .int, 2) := by decide +kernel
theorem dX7_init_19 : decode cX7_init 19 = .ok (.putfield 15, 3) := by decide +kernel
theorem dX7_init_22 : decode cX7_init 22 = .ok (.aload_n 0, 1) := by decide +kernel
theorem dX7_init_23 : decode cX7_init 23 = .ok (.sipush 400, 3) := by decide +kernel
theorem dX7_init_26 : decode cX7_init 26 = .ok (.newarray .int, 2) := by decide +kernel
theorem dX7_init_28 : decode cX7_init 28 = .ok (.putfield 18, 3) := by decide +kernel
theorem dX7_init_31 : decode cX7_init 31 = .ok (.return_, 1) := by decide +kernel
theorem dX7_follow_0 : decode cX7_follow 0 = .ok (.aload_n 0, 1) := by decide +kernel
theorem dX7_follow_1 : decode cX7_follow 1 = .ok (.getfield 21, 3) := by decide +kernel
theorem dX7_follow_4 : decode cX7_follow 4 = .ok (.aload_n 1, 1) := by decide +kernel
theorem dX7_follow_5 : decode cX7_follow 5 = .ok (.getfield 25, 3) := by decide +kernel
theorem dX7_follow_8 : decode cX7_follow 8 = .ok (.if_icmp .ne 4, 3) := by decide +kernel
theorem dX7_follow_11 : decode cX7_follow 11 = .ok (.return_, 1) := by decide +kernel
theorem dX7_follow_12 : decode cX7_follow 12 = .ok (.aload_n 0, 1) := by decide +kernel
theorem dX7_follow_13 : decode cX7_follow 13 = .ok (.aload_n 1, 1) := by decide +kernel
theorem dX7_follow_14 : decode cX7_follow 14 = .ok (.getfield 25, 3) := by decide +kernel
theorem dX7_follow_17 : decode cX7_follow 17 = .ok (.putfield 21, 3) := by decide +kernel
theorem dX7_follow_20 : decode cX7_follow 20 = .ok (.aload_n 0, 1) := by decide +kernel
theorem dX7_follow_21 : decode cX7_follow 21 = .ok (.iconst 0, 1) := by decide +kernel
theorem dX7_follow_22 : decode cX7_follow 22 = .ok (.putfield 30, 3) := by decide +kernel
theorem dX7_follow_25 : decode cX7_follow 25 = .ok (.aload_n 0, 1) := by decide +kernel
theorem dX7_follow_26 : decode cX7_follow 26 = .ok (.aload_n 1, 1) := by decide +kernel
theorem dX7_follow_27 : decode cX7_follow 27 = .ok (.invokevirtual 33, 3) := by decide +kernel
theorem dX7_follow_30 : decode cX7_follow 30 = .ok (.return_, 1) := by decide +kernel
theorem dX7_add_0 : decode cX7_add 0 = .ok (.aload_n 0, 1) := by decide +kernel
theorem dX7_add_1 : decode cX7_add 1 = .ok (.getfield 9, 3) := by decide +kernel
theorem dX7_add_4 : decode cX7_add 4 = .ok (.aload_n 0, 1) := by decide +kernel
theorem dX7_add_5 : decode cX7_add 5 = .ok (.getfield 30, 3) := by decide +kernel
theorem dX7_add_8 : decode cX7_add 8 = .ok (.iload_n 1, 1) := by decide +kernel
theorem dX7_add_9 : decode cX7_add 9 = .ok (.iastore, 1) := by decide +kernel
theorem dX7_add_10 : decode cX7_add 10 = .ok (.aload_n 0, 1) := by decide +kernel
theorem dX7_add_11 : decode cX7_add 11 = .ok (.getfield 15, 3) := by decide +kernel
theorem dX7_add_14 : decode cX7_add 14 = .ok (.aload_n 0, 1) := by decide +kernel
theorem dX7_add_15 : decode cX7_add 15 = .ok (.getfield 30, 3) := by decide +kernel
theorem dX7_add_18 : decode cX7_add 18 = .ok (.iload_n 2, 1) := by decide +kernel
theorem dX7_add_19 : decode cX7_add 19 = .ok (.iastore, 1) := by decide +kernel
theorem dX7_add_20 : decode cX7_add 20 = .ok (.aload_n 0, 1) := by decide +kernel
theorem dX7_add_21 : decode cX7_add 21 = .ok (.getfield 18, 3) := by decide +kernel
theorem dX7_add_24 : decode cX7_add 24 = .ok (.aload_n 0, 1) := by decide +kernel
theorem dX7_add_25 : decode cX7_add 25 = .ok (.getfield 30, 3) := by decide +kernel
theorem dX7_add_28 : decode cX7_add 28 = .ok (.iload_n 3, 1) := by decide +kernel
theorem dX7_add_29 : decode cX7_add 29 = .ok (.iastore, 1) := by decide +kernel
theorem dX7_add_30 : decode cX7_add 30 = .ok (.aload_n 0, 1) := by decide +kernel
theorem dX7_add_31 : decode cX7_add 31 = .ok (.dup, 1) := by decide +kernel
theorem dX7_add_32 : decode cX7_add 32 = .ok (.getfield 30, 3) := by decide +kernel
theorem dX7_add_35 : decode cX7_add 35 = .ok (.iconst 1, 1) := by decide +kernel
theorem dX7_add_36 : decode cX7_add 36 = .ok (.iadd, 1) := by decide +kernel
theorem dX7_add_37 : decode cX7_add 37 = .ok (.putfield 30, 3) := by decide +kernel
theorem dX7_add_40 : decode cX7_add 40 = .ok (.return_, 1) := by decide +kernel
theorem dX8_init_0 : decode cX8_init 0 = .ok (.aload_n 0, 1) := by decide +kernel
theorem dX8_init_1 : decode cX8_init 1 = .ok (.invokespecial 3, 3) := by decide +kernel
theorem dX8_init_4 : decode cX8_init 4 = .ok (.aload_n 0, 1) := by decide +kernel
theorem dX8_init_5 : decode cX8_init 5 = .ok (.sipush 400, 3) := by decide +kernel
theorem dX8_init_8 : decode cX8_init 8 = .ok (.newarray .int, 2) := by decide +kernel
theorem dX8_init_10 : decode cX8_init 10 = .ok (.putfield 9, 3) := by decide +kernel
theorem dX8_init_13 : decode cX8_init 13 = .ok (.aload_n 0, 1) := by decide +kernel
theorem dX8_init_14 : decode cX8_init 14 = .ok (.bipush 16, 2) := by decide +kernel
theorem dX8_init_16 : decode cX8_init 16 = .ok (.newarray .int, 2) := by decide +kernel
theorem dX8_init_18 : decode cX8_init 18 = .ok (.putfield 15, 3) := by decide +kernel
theorem dX8_init_21 : decode cX8_init 21 = .ok (.return_, 1) := by decide +kernel
theorem dX8_append_0 : decode cX8_append 0 = .ok (.aload_n 0, 1) := by decide +kernel
theorem dX8_append_1 : decode cX8_append 1 = .ok (.getfield 9, 3) := by decide +kernel
theorem dX8_append_4 : decode cX8_append 4 = .ok (.aload_n 0, 1) := by decide +kernel
theorem dX8_append_5 : decode cX8_append 5 = .ok (.getfield 18, 3) := by decide +kernel
theorem dX8_append_8 : decode cX8_append 8 = .ok (.iload_n 1, 1) := by decide +kernel
theorem dX8_append_9 : decode cX8_append 9 = .ok (.iastore, 1) := by decide +kernel
theorem dX8_append_10 : decode cX8_append 10 = .ok (.aload_n 0, 1) := by decide +kernel
theorem dX8_append_11 : decode cX8_append 11 = .ok (.dup, 1) := by decide +kernel
theorem dX8_append_12 : decode cX8_append 12 = .ok (.getfield 18, 3) := by decide +kernel
theorem dX8_append_15 : decode cX8_append 15 = .ok (.iconst 1, 1) := by decide +kernel
theorem dX8_append_16 : decode cX8_append 16 = .ok (.iadd, 1) := by decide +kernel
theorem dX8_append_17 : decode cX8_append 17 = .ok (.putfield 18, 3) := by decide +kernel
theorem dX8_append_20 : decode cX8_append 20 = .ok (.aload_n 0, 1) := by decide +kernel
theorem dX8_append_21 : decode cX8_append 21 = .ok (.getfield 15, 3) := by decide +kernel
theorem dX8_append_24 : decode cX8_append 24 = .ok (.iload_n 1, 1) := by decide +kernel
theorem dX8_append_25 : decode cX8_append 25 = .ok (.dup2, 1) := by decide +kernel
theorem dX8_append_26 : decode cX8_append 26 = .ok (.iaload, 1) := by decide +kernel
theorem dX8_append_27 : decode cX8_append 27 = .ok (.iconst 1, 1) := by decide +kernel
theorem dX8_append_28 : decode cX8_append 28 = .ok (.iadd, 1) := by decide +kernel
theorem dX8_append_29 : decode cX8_append 29 = .ok (.iastore, 1) := by decide +kernel
theorem dX8_append_30 : decode cX8_append 30 = .ok (.aload_n 0, 1) := by decide +kernel
theorem dX8_append_31 : decode cX8_append 31 = .ok (.dup, 1) := by decide +kernel
theorem dX8_append_32 : decode cX8_append 32 = .ok (.getfield 22, 3) := by decide +kernel
theorem dX8_append_35 : decode cX8_append 35 = .ok (.iconst 1, 1) := by decide +kernel
theorem dX8_append_36 : decode cX8_append 36 = .ok (.iadd, 1) := by decide +kernel
theorem dX8_append_37 : decode cX8_append 37 = .ok (.putfield 22, 3) := by decide +kernel
theorem dX8_append_40 : decode cX8_append 40 = .ok (.return_, 1) := by decide +kernel
theorem dX8_clear_0 : decode cX8_clear 0 = .ok (.aload_n 0, 1) := by decide +kernel
theorem dX8_clear_1 : decode cX8_clear 1 = .ok (.iconst 0, 1) := by decide +kernel
theorem dX8_clear_2 : decode cX8_clear 2 = .ok (.putfield 18, 3) := by decide +kernel
theorem dX8_clear_5 : decode cX8_clear 5 = .ok (.aload_n 0, 1) := by decide +kernel
theorem dX8_clear_6 : decode cX8_clear 6 = .ok (.getfield 15, 3) := by decide +kernel
theorem dX8_clear_9 : decode cX8_clear 9 = .ok (.iconst 0, 1) := by decide +kernel
theorem dX8_clear_10 : decode cX8_clear 10 = .ok (.invokestatic 25, 3) := by decide +kernel
theorem dX8_clear_13 : decode cX8_clear 13 = .ok (.aload_n 0, 1) := by decide +kernel
theorem dX8_clear_14 : decode cX8_clear 14 = .ok (.dup, 1) := by decide +kernel
theorem dX8_clear_15 : decode cX8_clear 15 = .ok (.getfield 22, 3) := by decide +kernel
theorem dX8_clear_18 : decode cX8_clear 18 = .ok (.iconst 1, 1) := by decide +kernel
theorem dX8_clear_19 : decode cX8_clear 19 = .ok (.iadd, 1) := by decide +kernel
theorem dX8_clear_20 : decode cX8_clear 20 = .ok (.putfield 22, 3) := by decide +kernel
theorem dX8_clear_23 : decode cX8_clear 23 = .ok (.return_, 1) := by decide +kernel
theorem dX9_init_0 : decode cX9_init 0 = .ok (.aload_n 0, 1) := by decide +kernel
theorem dX9_init_1 : decode cX9_init 1 = .ok (.invokespecial 3, 3) := by decide +kernel
theorem dX9_init_4 : decode cX9_init 4 = .ok (.aload_n 0, 1) := by decide +kernel
theorem dX9_init_5 : decode cX9_init 5 = .ok (.bipush 16, 2) := by decide +kernel
theorem dX9_init_7 : decode cX9_init 7 = .ok (.newarray .int, 2) := by decide +kernel
theorem dX9_init_9 : decode cX9_init 9 = .ok (.putfield 9, 3) := by decide +kernel
theorem dX9_init_12 : decode cX9_init 12 = .ok (.return_, 1) := by decide +kernel
theorem dX9_replace_0 : decode cX9_replace 0 = .ok (.aload_n 0, 1) := by decide +kernel
theorem dX9_replace_1 : decode cX9_replace 1 = .ok (.getfield 9, 3) := by decide +kernel
theorem dX9_replace_4 : decode cX9_replace 4 = .ok (.iload_n 1, 1) := by decide +kernel
theorem dX9_replace_5 : decode cX9_replace 5 = .ok (.iaload, 1) := by decide +kernel
theorem dX9_replace_6 : decode cX9_replace 6 = .ok (.istore_n 3, 1) := by decide +kernel
theorem dX9_replace_7 : decode cX9_replace 7 = .ok (.aload_n 0, 1) := by decide +kernel
theorem dX9_replace_8 : decode cX9_replace 8 = .ok (.getfield 9, 3) := by decide +kernel
theorem dX9_replace_11 : decode cX9_replace 11 = .ok (.iload_n 1, 1) := by decide +kernel
theorem dX9_replace_12 : decode cX9_replace 12 = .ok (.iload_n 2, 1) := by decide +kernel
theorem dX9_replace_13 : decode cX9_replace 13 = .ok (.iastore, 1) := by decide +kernel
theorem dX9_replace_14 : decode cX9_replace 14 = .ok (.aload_n 0, 1) := by decide +kernel
theorem dX9_replace_15 : decode cX9_replace 15 = .ok (.dup, 1) := by decide +kernel
theorem dX9_replace_16 : decode cX9_replace 16 = .ok (.getfield 15, 3) := by decide +kernel
theorem dX9_replace_19 : decode cX9_replace 19 = .ok (.iload_n 2, 1) := by decide +kernel
theorem dX9_replace_20 : decode cX9_replace 20 = .ok (.iload_n 3, 1) := by decide +kernel
theorem dX9_replace_21 : decode cX9_replace 21 = .ok (.isub, 1) := by decide +kernel
theorem dX9_replace_22 : decode cX9_replace 22 = .ok (.iadd, 1) := by decide +kernel
theorem dX9_replace_23 : decode cX9_replace 23 = .ok (.putfield 15, 3) := by decide +kernel
theorem dX9_replace_26 : decode cX9_replace 26 = .ok (.iload_n 3, 1) := by decide +kernel
theorem dX9_replace_27 : decode cX9_replace 27 = .ok (.ireturn, 1) := by decide +kernel
theorem dX9_cover_0 : decode cX9_cover 0 = .ok (.iconst 0, 1) := by decide +kernel
theorem dX9_cover_1 : decode cX9_cover 1 = .ok (.istore_n 2, 1) := by decide +kernel
theorem dX9_cover_2 : decode cX9_cover 2 = .ok (.iload_n 2, 1) := by decide +kernel
theorem dX9_cover_3 : decode cX9_cover 3 = .ok (.bipush 16, 2) := by decide +kernel
theorem dX9_cover_5 : decode cX9_cover 5 = .ok (.if_icmp .ge 29, 3) := by decide +kernel
theorem dX9_cover_8 : decode cX9_cover 8 = .ok (.aload_n 1, 1) := by decide +kernel
theorem dX9_cover_9 : decode cX9_cover 9 = .ok (.getfield 19, 3) := by decide +kernel
theorem dX9_cover_12 : decode cX9_cover 12 = .ok (.iload_n 2, 1) := by decide +kernel
theorem dX9_cover_13 : decode cX9_cover 13 = .ok (.iaload, 1) := by decide +kernel
theorem dX9_cover_14 : decode cX9_cover 14 = .ok (.ifCond .le 14, 3) := by decide +kernel
theorem dX9_cover_17 : decode cX9_cover 17 = .ok (.aload_n 0, 1) := by decide +kernel
theorem dX9_cover_18 : decode cX9_cover 18 = .ok (.getfield 9, 3) := by decide +kernel
theorem dX9_cover_21 : decode cX9_cover 21 = .ok (.iload_n 2, 1) := by decide +kernel
theorem dX9_cover_22 : decode cX9_cover 22 = .ok (.iaload, 1) := by decide +kernel
theorem dX9_cover_23 : decode cX9_cover 23 = .ok (.ifCond .ne 5, 3) := by decide +kernel
theorem dX9_cover_26 : decode cX9_cover 26 = .ok (.iconst 0, 1) := by decide +kernel
theorem dX9_cover_27 : decode cX9_cover 27 = .ok (.ireturn, 1) := by decide +kernel
theorem dX9_cover_28 : decode cX9_cover 28 = .ok (.iinc 2 1, 3) := by decide +kernel
theorem dX9_cover_31 : decode cX9_cover 31 = .ok (.goto (-29), 3) := by decide +kernel
theorem dX9_cover_34 : decode cX9_cover 34 = .ok (.iconst 1, 1) := by decide +kernel
theorem dX9_cover_35 : decode cX9_cover 35 = .ok (.ireturn, 1) := by decide +kernel
theorem dX10_init_0 : decode cX10_init 0 = .ok (.aload_n 0, 1) := by decide +kernel
theorem dX10_init_1 : decode cX10_init 1 = .ok (.invokespecial 3, 3) := by decide +kernel
theorem dX10_init_4 : decode cX10_init 4 = .ok (.aload_n 0, 1) := by decide +kernel
theorem dX10_init_5 : decode cX10_init 5 = .ok (.bipush 16, 2) := by decide +kernel
theorem dX10_init_7 : decode cX10_init 7 = .ok (.newarray .int, 2) := by decide +kernel
theorem dX10_init_9 : decode cX10_init 9 = .ok (.putfield 9, 3) := by decide +kernel
theorem dX10_init_12 : decode cX10_init 12 = .ok (.aload_n 0, 1) := by decide +kernel
theorem dX10_init_13 : decode cX10_init 13 = .ok (.bipush 32, 2) := by decide +kernel
theorem dX10_init_15 : decode cX10_init 15 = .ok (.newarray .int, 2) := by decide +kernel
theorem dX10_init_17 : decode cX10_init 17 = .ok (.putfield 15, 3) := by decide +kernel
theorem dX10_init_20 : decode cX10_init 20 = .ok (.aload_n 0, 1) := by decide +kernel
theorem dX10_init_21 : decode cX10_init 21 = .ok (.bipush 16, 2) := by decide +kernel
theorem dX10_init_23 : decode cX10_init 23 = .ok (.newarray .int, 2) := by decide +kernel
theorem dX10_init_25 : decode cX10_init 25 = .ok (.putfield 18, 3) := by decide +kernel
theorem dX10_init_28 : decode cX10_init 28 = .ok (.return_, 1) := by decide +kernel
theorem dX10_follow_0 : decode cX10_follow 0 = .ok (.aload_n 0, 1) := by decide +kernel
theorem dX10_follow_1 : decode cX10_follow 1 = .ok (.getfield 21, 3) := by decide +kernel
theorem dX10_follow_4 : decode cX10_follow 4 = .ok (.aload_n 1, 1) := by decide +kernel
theorem dX10_follow_5 : decode cX10_follow 5 = .ok (.getfield 25, 3) := by decide +kernel
theorem dX10_follow_8 : decode cX10_follow 8 = .ok (.if_icmp .ne 4, 3) := by decide +kernel
theorem dX10_follow_11 : decode cX10_follow 11 = .ok (.return_, 1) := by decide +kernel
theorem dX10_follow_12 : decode cX10_follow 12 = .ok (.aload_n 0, 1) := by decide +kernel
theorem dX10_follow_13 : decode cX10_follow 13 = .ok (.aload_n 1, 1) := by decide +kernel
theorem dX10_follow_14 : decode cX10_follow 14 = .ok (.getfield 25, 3) := by decide +kernel
theorem dX10_follow_17 : decode cX10_follow 17 = .ok (.putfield 21, 3) := by decide +kernel
theorem dX10_follow_20 : decode cX10_follow 20 = .ok (.aload_n 0, 1) := by decide +kernel
theorem dX10_follow_21 : decode cX10_follow 21 = .ok (.aload_n 1, 1) := by decide +kernel
theorem dX10_follow_22 : decode cX10_follow 22 = .ok (.invokevirtual 30, 3) := by decide +kernel
theorem dX10_follow_25 : decode cX10_follow 25 = .ok (.aload_n 0, 1) := by decide +kernel
theorem dX10_follow_26 : decode cX10_follow 26 = .ok (.getfield 34, 3) := by decide +kernel
theorem dX10_follow_29 : decode cX10_follow 29 = .ok (.iconst 1, 1) := by decide +kernel
theorem dX10_follow_30 : decode cX10_follow 30 = .ok (.if_icmp .ne 8, 3) := by decide +kernel
theorem dX10_follow_33 : decode cX10_follow 33 = .ok (.aload_n 0, 1) := by decide +kernel
theorem dX10_follow_34 : decode cX10_follow 34 = .ok (.iconst 0, 1) := by decide +kernel
theorem dX10_follow_35 : decode cX10_follow 35 = .ok (.invokevirtual 37, 3) := by decide +kernel
theorem dX10_follow_38 : decode cX10_follow 38 = .ok (.aload_n 0, 1) := by decide +kernel
theorem dX10_follow_39 : decode cX10_follow 39 = .ok (.getfield 34, 3) := by decide +kernel
theorem dX10_follow_42 : decode cX10_follow 42 = .ok (.iconst 1, 1) := by decide +kernel
theorem dX10_follow_43 : decode cX10_follow 43 = .ok (.isub, 1) := by decide +kernel
theorem dX10_follow_44 : decode cX10_follow 44 = .ok (.istore_n 2, 1) := by decide +kernel
theorem dX10_follow_45 : decode cX10_follow 45 = .ok (.iload_n 2, 1) := by decide +kernel
theorem dX10_follow_46 : decode cX10_follow 46 = .ok (.ifCond .le 13, 3) := by decide +kernel
theorem dX10_follow_49 : decode cX10_follow 49 = .ok (.aload_n 0, 1) := by decide +kernel
theorem dX10_follow_50 : decode cX10_follow 50 = .ok (.invokevirtual 41, 3) := by decide +kernel
theorem dX10_follow_53 : decode cX10_follow 53 = .ok (.iinc 2 (-1), 3) := by decide +kernel
theorem dX10_follow_56 : decode cX10_follow 56 = .ok (.goto (-11), 3) := by decide +kernel
theorem dX10_follow_59 : decode cX10_follow 59 = .ok (.return_, 1) := by decide +kernel
theorem dX10_stepWidth_0 : decode cX10_stepWidth 0 = .ok (.iconst 0, 1) := by decide +kernel
theorem dX10_stepWidth_1 : decode cX10_stepWidth 1 = .ok (.istore_n 2, 1) := by decide +kernel
theorem dX10_stepWidth_2 : decode cX10_stepWidth 2 = .ok (.iload_n 0, 1) := by decide +kernel
theorem dX10_stepWidth_3 : decode cX10_stepWidth 3 = .ok (.ifCond .le 22, 3) := by decide +kernel
theorem dX10_stepWidth_6 : decode cX10_stepWidth 6 = .ok (.iload_n 2, 1) := by decide +kernel
theorem dX10_stepWidth_7 : decode cX10_stepWidth 7 = .ok (.bipush 10, 2) := by decide +kernel
theorem dX10_stepWidth_9 : decode cX10_stepWidth 9 = .ok (.if_icmp .ge 16, 3) := by decide +kernel
theorem dX10_stepWidth_12 : decode cX10_stepWidth 12 = .ok (.iload_n 0, 1) := by decide +kernel
theorem dX10_stepWidth_13 : decode cX10_stepWidth 13 = .ok (.iload_n 2, 1) := by decide +kernel
theorem dX10_stepWidth_14 : decode cX10_stepWidth 14 = .ok (.ishl, 1) := by decide +kernel
theorem dX10_stepWidth_15 : decode cX10_stepWidth 15 = .ok (.iload_n 1, 1) := by decide +kernel
theorem dX10_stepWidth_16 : decode cX10_stepWidth 16 = .ok (.if_icmp .ge 9, 3) := by decide +kernel
theorem dX10_stepWidth_19 : decode cX10_stepWidth 19 = .ok (.iinc 2 1, 3) := by decide +kernel
theorem dX10_stepWidth_22 : decode cX10_stepWidth 22 = .ok (.goto (-20), 3) := by decide +kernel
theorem dX10_stepWidth_25 : decode cX10_stepWidth 25 = .ok (.iload_n 2, 1) := by decide +kernel
theorem dX10_stepWidth_26 : decode cX10_stepWidth 26 = .ok (.ireturn, 1) := by decide +kernel
theorem dX10_plantTrees_0 : decode cX10_plantTrees 0 = .ok (.aload_n 0, 1) := by decide +kernel
theorem dX10_plantTrees_1 : decode cX10_plantTrees 1 = .ok (.iconst 0, 1) := by decide +kernel
theorem dX10_plantTrees_2 : decode cX10_plantTrees 2 = .ok (.putfield 34, 3) := by decide +kernel
theorem dX10_plantTrees_5 : decode cX10_plantTrees 5 = .ok (.iconst 0, 1) := by decide +kernel
theorem dX10_plantTrees_6 : decode cX10_plantTrees 6 = .ok (.istore_n 2, 1) := by decide +kernel
theorem dX10_plantTrees_7 : decode cX10_plantTrees 7 = .ok (.iload_n 2, 1) := by decide +kernel
theorem dX10_plantTrees_8 : decode cX10_plantTrees 8 = .ok (.bipush 16, 2) := by decide +kernel
theorem dX10_plantTrees_10 : decode cX10_plantTrees 10 = .ok (.if_icmp .ge 68, 3) := by decide +kernel
theorem dX10_plantTrees_13 : decode cX10_plantTrees 13 = .ok (.aload_n 0, 1) := by decide +kernel
theorem dX10_plantTrees_14 : decode cX10_plantTrees 14 = .ok (.getfield 9, 3) := by decide +kernel
theorem dX10_plantTrees_17 : decode cX10_plantTrees 17 = .ok (.iload_n 2, 1) := by decide +kernel
theorem dX10_plantTrees_18 : decode cX10_plantTrees 18 = .ok (.iconst 0, 1) := by decide +kernel
theorem dX10_plantTrees_19 : decode cX10_plantTrees 19 = .ok (.iastore, 1) := by decide +kernel
theorem dX10_plantTrees_20 : decode cX10_plantTrees 20 = .ok (.aload_n 0, 1) := by decide +kernel
theorem dX10_plantTrees_21 : decode cX10_plantTrees 21 = .ok (.getfield 18, 3) := by decide +kernel
theorem dX10_plantTrees_24 : decode cX10_plantTrees 24 = .ok (.iload_n 2, 1) := by decide +kernel
theorem dX10_plantTrees_25 : decode cX10_plantTrees 25 = .ok (.bipush (-2), 2) := by decide +kernel
theorem dX10_plantTrees_27 : decode cX10_plantTrees 27 = .ok (.iastore, 1) := by decide +kernel
theorem dX10_plantTrees_28 : decode cX10_plantTrees 28 = .ok (.aload_n 1, 1) := by decide +kernel
theorem dX10_plantTrees_29 : decode cX10_plantTrees 29 = .ok (.getfield 44, 3) := by decide +kernel
theorem dX10_plantTrees_32 : decode cX10_plantTrees 32 = .ok (.iload_n 2, 1) := by decide +kernel
theorem dX10_plantTrees_33 : decode cX10_plantTrees 33 = .ok (.iaload, 1) := by decide +kernel
theorem dX10_plantTrees_34 : decode cX10_plantTrees 34 = .ok (.ifCond .le 38, 3) := by decide +kernel
theorem dX10_plantTrees_37 : decode cX10_plantTrees 37 = .ok (.aload_n 0, 1) := by decide +kernel
theorem dX10_plantTrees_38 : decode cX10_plantTrees 38 = .ok (.getfield 18, 3) := by decide +kernel
theorem dX10_plantTrees_41 : decode cX10_plantTrees 41 = .ok (.iload_n 2, 1) := by decide +kernel
theorem dX10_plantTrees_42 : decode cX10_plantTrees 42 = .ok (.aload_n 0, 1) := by decide +kernel
theorem dX10_plantTrees_43 : decode cX10_plantTrees 43 = .ok (.getfield 34, 3) := by decide +kernel
theorem dX10_plantTrees_46 : decode cX10_plantTrees 46 = .ok (.iastore, 1) := by decide +kernel
theorem dX10_plantTrees_47 : decode cX10_plantTrees 47 = .ok (.aload_n 0, 1) := by decide +kernel
theorem dX10_plantTrees_48 : decode cX10_plantTrees 48 = .ok (.getfield 15, 3) := by decide +kernel
theorem dX10_plantTrees_51 : decode cX10_plantTrees 51 = .ok (.aload_n 0, 1) := by decide +kernel
theorem dX10_plantTrees_52 : decode cX10_plantTrees 52 = .ok (.getfield 34, 3) := by decide +kernel
theorem dX10_plantTrees_55 : decode cX10_plantTrees 55 = .ok (.aload_n 1, 1) := by decide +kernel
theorem dX10_plantTrees_56 : decode cX10_plantTrees 56 = .ok (.getfield 44, 3) := by decide +kernel
theorem dX10_plantTrees_59 : decode cX10_plantTrees 59 = .ok (.iload_n 2, 1) := by decide +kernel
theorem dX10_plantTrees_60 : decode cX10_plantTrees 60 = .ok (.iaload, 1) := by decide +kernel
theorem dX10_plantTrees_61 : decode cX10_plantTrees 61 = .ok (.iastore, 1) := by decide +kernel
theorem dX10_plantTrees_62 : decode cX10_plantTrees 62 = .ok (.aload_n 0, 1) := by decide +kernel
theorem dX10_plantTrees_63 : decode cX10_plantTrees 63 = .ok (.dup, 1) := by decide +kernel
theorem dX10_plantTrees_64 : decode cX10_plantTrees 64 = .ok (.getfield 34, 3) := by decide +kernel
theorem dX10_plantTrees_67 : decode cX10_plantTrees 67 = .ok (.iconst 1, 1) := by decide +kernel
theorem dX10_plantTrees_68 : decode cX10_plantTrees 68 = .ok (.iadd, 1) := by decide +kernel
theorem dX10_plantTrees_69 : decode cX10_plantTrees 69 = .ok (.putfield 34, 3) := by decide +kernel
theorem dX10_plantTrees_72 : decode cX10_plantTrees 72 = .ok (.iinc 2 1, 3) := by decide +kernel
theorem dX10_plantTrees_75 : decode cX10_plantTrees 75 = .ok (.goto (-68), 3) := by decide +kernel
theorem dX10_plantTrees_78 : decode cX10_plantTrees 78 = .ok (.return_, 1) := by decide +kernel
theorem dX10_joinTwoTrees_0 : decode cX10_joinTwoTrees 0 = .ok (.aload_n 0, 1) := by decide +kernel
theorem dX10_joinTwoTrees_1 : decode cX10_joinTwoTrees 1 = .ok (.invokevirtual 47, 3) := by decide +kernel
theorem dX10_joinTwoTrees_4 : decode cX10_joinTwoTrees 4 = .ok (.aload_n 0, 1) := by decide +kernel
theorem dX10_joinTwoTrees_5 : decode cX10_joinTwoTrees 5 = .ok (.invokevirtual 47, 3) := by decide +kernel
theorem dX10_joinTwoTrees_8 : decode cX10_joinTwoTrees 8 = .ok (.iadd, 1) := by decide +kernel
theorem dX10_joinTwoTrees_9 : decode cX10_joinTwoTrees 9 = .ok (.istore_n 1, 1) := by decide +kernel
theorem dX10_joinTwoTrees_10 : decode cX10_joinTwoTrees 10 = .ok (.aload_n 0, 1) := by decide +kernel
theorem dX10_joinTwoTrees_11 : decode cX10_joinTwoTrees 11 = .ok (.getfield 15, 3) := by decide +kernel
theorem dX10_joinTwoTrees_14 : decode cX10_joinTwoTrees 14 = .ok (.aload_n 0, 1) := by decide +kernel
theorem dX10_joinTwoTrees_15 : decode cX10_joinTwoTrees 15 = .ok (.getfield 34, 3) := by decide +kernel
theorem dX10_joinTwoTrees_18 : decode cX10_joinTwoTrees 18 = .ok (.iload_n 1, 1) := by decide +kernel
theorem dX10_joinTwoTrees_19 : decode cX10_joinTwoTrees 19 = .ok (.iastore, 1) := by decide +kernel
theorem dX10_joinTwoTrees_20 : decode cX10_joinTwoTrees 20 = .ok (.aload_n 0, 1) := by decide +kernel
theorem dX10_joinTwoTrees_21 : decode cX10_joinTwoTrees 21 = .ok (.dup, 1) := by decide +kernel
theorem dX10_joinTwoTrees_22 : decode cX10_joinTwoTrees 22 = .ok (.getfield 34, 3) := by decide +kernel
theorem dX10_joinTwoTrees_25 : decode cX10_joinTwoTrees 25 = .ok (.iconst 1, 1) := by decide +kernel
theorem dX10_joinTwoTrees_26 : decode cX10_joinTwoTrees 26 = .ok (.iadd, 1) := by decide +kernel
theorem dX10_joinTwoTrees_27 : decode cX10_joinTwoTrees 27 = .ok (.putfield 34, 3) := by decide +kernel
theorem dX10_joinTwoTrees_30 : decode cX10_joinTwoTrees 30 = .ok (.return_, 1) := by decide +kernel
theorem dX10_takeLeastTree_0 : decode cX10_takeLeastTree 0 = .ok (.iconst 0, 1) := by decide +kernel
theorem dX10_takeLeastTree_1 : decode cX10_takeLeastTree 1 = .ok (.istore_n 1, 1) := by decide +kernel
theorem dX10_takeLeastTree_2 : decode cX10_takeLeastTree 2 = .ok (.iconst 1, 1) := by decide +kernel
theorem dX10_takeLeastTree_3 : decode cX10_takeLeastTree 3 = .ok (.istore_n 2, 1) := by decide +kernel
theorem dX10_takeLeastTree_4 : decode cX10_takeLeastTree 4 = .ok (.iload_n 2, 1) := by decide +kernel
theorem dX10_takeLeastTree_5 : decode cX10_takeLeastTree 5 = .ok (.aload_n 0, 1) := by decide +kernel
theorem dX10_takeLeastTree_6 : decode cX10_takeLeastTree 6 = .ok (.getfield 34, 3) := by decide +kernel
theorem dX10_takeLeastTree_9 : decode cX10_takeLeastTree 9 = .ok (.if_icmp .ge 66, 3) := by decide +kernel
theorem dX10_takeLeastTree_12 : decode cX10_takeLeastTree 12 = .ok (.aload_n 0, 1) := by decide +kernel
theorem dX10_takeLeastTree_13 : decode cX10_takeLeastTree 13 = .ok (.getfield 15, 3) := by decide +kernel
theorem dX10_takeLeastTree_16 : decode cX10_takeLeastTree 16 = .ok (.iload_n 1, 1) := by decide +kernel
theorem dX10_takeLeastTree_17 : decode cX10_takeLeastTree 17 = .ok (.iaload, 1) := by decide +kernel
theorem dX10_takeLeastTree_18 : decode cX10_takeLeastTree 18 = .ok (.ifCond .ne 7, 3) := by decide +kernel
theorem dX10_takeLeastTree_21 : decode cX10_takeLeastTree 21 = .ok (.iconst 1, 1) := by decide +kernel
theorem dX10_takeLeastTree_22 : decode cX10_takeLeastTree 22 = .ok (.goto 4, 3) := by decide +kernel
theorem dX10_takeLeastTree_25 : decode cX10_takeLeastTree 25 = .ok (.iconst 0, 1) := by decide +kernel
theorem dX10_takeLeastTree_26 : decode cX10_takeLeastTree 26 = .ok (.istore_n 3, 1) := by decide +kernel
theorem dX10_takeLeastTree_27 : decode cX10_takeLeastTree 27 = .ok (.aload_n 0, 1) := by decide +kernel
theorem dX10_takeLeastTree_28 : decode cX10_takeLeastTree 28 = .ok (.getfield 15, 3) := by decide +kernel
theorem dX10_takeLeastTree_31 : decode cX10_takeLeastTree 31 = .ok (.iload_n 2, 1) := by decide +kernel
theorem dX10_takeLeastTree_32 : decode cX10_takeLeastTree 32 = .ok (.iaload, 1) := by decide +kernel
theorem dX10_takeLeastTree_33 : decode cX10_takeLeastTree 33 = .ok (.aload_n 0, 1) := by decide +kernel
theorem dX10_takeLeastTree_34 : decode cX10_takeLeastTree 34 = .ok (.getfield 15, 3) := by decide +kernel
theorem dX10_takeLeastTree_37 : decode cX10_takeLeastTree 37 = .ok (.iload_n 1, 1) := by decide +kernel
theorem dX10_takeLeastTree_38 : decode cX10_takeLeastTree 38 = .ok (.iaload, 1) := by decide +kernel
theorem dX10_takeLeastTree_39 : decode cX10_takeLeastTree 39 = .ok (.if_icmp .ge 7, 3) := by decide +kernel
theorem dX10_takeLeastTree_42 : decode cX10_takeLeastTree 42 = .ok (.iconst 1, 1) := by decide +kernel
theorem dX10_takeLeastTree_43 : decode cX10_takeLeastTree 43 = .ok (.goto 4, 3) := by decide +kernel
theorem dX10_takeLeastTree_46 : decode cX10_takeLeastTree 46 = .ok (.iconst 0, 1) := by decide +kernel
theorem dX10_takeLeastTree_47 : decode cX10_takeLeastTree 47 = .ok (.istore 4, 2) := by decide +kernel
theorem dX10_takeLeastTree_49 : decode cX10_takeLeastTree 49 = .ok (.aload_n 0, 1) := by decide +kernel
theorem dX10_takeLeastTree_50 : decode cX10_takeLeastTree 50 = .ok (.getfield 15, 3) := by decide +kernel
theorem dX10_takeLeastTree_53 : decode cX10_takeLeastTree 53 = .ok (.iload_n 2, 1) := by decide +kernel
theorem dX10_takeLeastTree_54 : decode cX10_takeLeastTree 54 = .ok (.iaload, 1) := by decide +kernel
theorem dX10_takeLeastTree_55 : decode cX10_takeLeastTree 55 = .ok (.ifCond .le 14, 3) := by decide +kernel
theorem dX10_takeLeastTree_58 : decode cX10_takeLeastTree 58 = .ok (.iload_n 3, 1) := by decide +kernel
theorem dX10_takeLeastTree_59 : decode cX10_takeLeastTree 59 = .ok (.ifCond .ne 8, 3) := by decide +kernel
theorem dX10_takeLeastTree_62 : decode cX10_takeLeastTree 62 = .ok (.iload 4, 2) := by decide +kernel
theorem dX10_takeLeastTree_64 : decode cX10_takeLeastTree 64 = .ok (.ifCond .eq 5, 3) := by decide +kernel
theorem dX10_takeLeastTree_67 : decode cX10_takeLeastTree 67 = .ok (.iload_n 2, 1) := by decide +kernel
theorem dX10_takeLeastTree_68 : decode cX10_takeLeastTree 68 = .ok (.istore_n 1, 1) := by decide +kernel
theorem dX10_takeLeastTree_69 : decode cX10_takeLeastTree 69 = .ok (.iinc 2 1, 3) := by decide +kernel
theorem dX10_takeLeastTree_72 : decode cX10_takeLeastTree 72 = .ok (.goto (-68), 3) := by decide +kernel
theorem dX10_takeLeastTree_75 : decode cX10_takeLeastTree 75 = .ok (.aload_n 0, 1) := by decide +kernel
theorem dX10_takeLeastTree_76 : decode cX10_takeLeastTree 76 = .ok (.getfield 15, 3) := by decide +kernel
theorem dX10_takeLeastTree_79 : decode cX10_takeLeastTree 79 = .ok (.iload_n 1, 1) := by decide +kernel
theorem dX10_takeLeastTree_80 : decode cX10_takeLeastTree 80 = .ok (.iaload, 1) := by decide +kernel
theorem dX10_takeLeastTree_81 : decode cX10_takeLeastTree 81 = .ok (.istore_n 2, 1) := by decide +kernel
theorem dX10_takeLeastTree_82 : decode cX10_takeLeastTree 82 = .ok (.aload_n 0, 1) := by decide +kernel
theorem dX10_takeLeastTree_83 : decode cX10_takeLeastTree 83 = .ok (.getfield 15, 3) := by decide +kernel
theorem dX10_takeLeastTree_86 : decode cX10_takeLeastTree 86 = .ok (.iload_n 1, 1) := by decide +kernel
theorem dX10_takeLeastTree_87 : decode cX10_takeLeastTree 87 = .ok (.iconst 0, 1) := by decide +kernel
theorem dX10_takeLeastTree_88 : decode cX10_takeLeastTree 88 = .ok (.iastore, 1) := by decide +kernel
theorem dX10_takeLeastTree_89 : decode cX10_takeLeastTree 89 = .ok (.aload_n 0, 1) := by decide +kernel
theorem dX10_takeLeastTree_90 : decode cX10_takeLeastTree 90 = .ok (.iload_n 1, 1) := by decide +kernel
theorem dX10_takeLeastTree_91 : decode cX10_takeLeastTree 91 = .ok (.invokevirtual 37, 3) := by decide +kernel
theorem dX10_takeLeastTree_94 : decode cX10_takeLeastTree 94 = .ok (.iload_n 2, 1) := by decide +kernel
theorem dX10_takeLeastTree_95 : decode cX10_takeLeastTree 95 = .ok (.ireturn, 1) := by decide +kernel
theorem dX10_widenTree_0 : decode cX10_widenTree 0 = .ok (.iconst 0, 1) := by decide +kernel
theorem dX10_widenTree_1 : decode cX10_widenTree 1 = .ok (.istore_n 2, 1) := by decide +kernel
theorem dX10_widenTree_2 : decode cX10_widenTree 2 = .ok (.iload_n 2, 1) := by decide +kernel
theorem dX10_widenTree_3 : decode cX10_widenTree 3 = .ok (.bipush 16, 2) := by decide +kernel
theorem dX10_widenTree_5 : decode cX10_widenTree 5 = .ok (.if_icmp .ge 39, 3) := by decide +kernel
theorem dX10_widenTree_8 : decode cX10_widenTree 8 = .ok (.aload_n 0, 1) := by decide +kernel
theorem dX10_widenTree_9 : decode cX10_widenTree 9 = .ok (.getfield 18, 3) := by decide +kernel
theorem dX10_widenTree_12 : decode cX10_widenTree 12 = .ok (.iload_n 2, 1) := by decide +kernel
theorem dX10_widenTree_13 : decode cX10_widenTree 13 = .ok (.iaload, 1) := by decide +kernel
theorem dX10_widenTree_14 : decode cX10_widenTree 14 = .ok (.iload_n 1, 1) := by decide +kernel
theorem dX10_widenTree_15 : decode cX10_widenTree 15 = .ok (.if_icmp .ne 23, 3) := by decide +kernel
theorem dX10_widenTree_18 : decode cX10_widenTree 18 = .ok (.aload_n 0, 1) := by decide +kernel
theorem dX10_widenTree_19 : decode cX10_widenTree 19 = .ok (.getfield 18, 3) := by decide +kernel
theorem dX10_widenTree_22 : decode cX10_widenTree 22 = .ok (.iload_n 2, 1) := by decide +kernel
theorem dX10_widenTree_23 : decode cX10_widenTree 23 = .ok (.aload_n 0, 1) := by decide +kernel
theorem dX10_widenTree_24 : decode cX10_widenTree 24 = .ok (.getfield 34, 3) := by decide +kernel
theorem dX10_widenTree_27 : decode cX10_widenTree 27 = .ok (.iastore, 1) := by decide +kernel
theorem dX10_widenTree_28 : decode cX10_widenTree 28 = .ok (.aload_n 0, 1) := by decide +kernel
theorem dX10_widenTree_29 : decode cX10_widenTree 29 = .ok (.getfield 9, 3) := by decide +kernel
theorem dX10_widenTree_32 : decode cX10_widenTree 32 = .ok (.iload_n 2, 1) := by decide +kernel
theorem dX10_widenTree_33 : decode cX10_widenTree 33 = .ok (.dup2, 1) := by decide +kernel
theorem dX10_widenTree_34 : decode cX10_widenTree 34 = .ok (.iaload, 1) := by decide +kernel
theorem dX10_widenTree_35 : decode cX10_widenTree 35 = .ok (.iconst 1, 1) := by decide +kernel
theorem dX10_widenTree_36 : decode cX10_widenTree 36 = .ok (.iadd, 1) := by decide +kernel
theorem dX10_widenTree_37 : decode cX10_widenTree 37 = .ok (.iastore, 1) := by decide +kernel
theorem dX10_widenTree_38 : decode cX10_widenTree 38 = .ok (.iinc 2 1, 3) := by decide +kernel
theorem dX10_widenTree_41 : decode cX10_widenTree 41 = .ok (.goto (-39), 3) := by decide +kernel
theorem dX10_widenTree_44 : decode cX10_widenTree 44 = .ok (.return_, 1) := by decide +kernel
theorem dX11_init_0 : decode cX11_init 0 = .ok (.aload_n 0, 1) := by decide +kernel
theorem dX11_init_1 : decode cX11_init 1 = .ok (.invokespecial 1, 3) := by decide +kernel
theorem dX11_init_4 : decode cX11_init 4 = .ok (.aload_n 0, 1) := by decide +kernel
theorem dX11_init_5 : decode cX11_init 5 = .ok (.new 7, 3) := by decide +kernel
theorem dX11_init_8 : decode cX11_init 8 = .ok (.dup, 1) := by decide +kernel
theorem dX11_init_9 : decode cX11_init 9 = .ok (.invokespecial 9, 3) := by decide +kernel
theorem dX11_init_12 : decode cX11_init 12 = .ok (.putfield 10, 3) := by decide +kernel
theorem dX11_init_15 : decode cX11_init 15 = .ok (.aload_n 0, 1) := by decide +kernel
theorem dX11_init_16 : decode cX11_init 16 = .ok (.new 16, 3) := by decide +kernel
theorem dX11_init_19 : decode cX11_init 19 = .ok (.dup, 1) := by decide +kernel
theorem dX11_init_20 : decode cX11_init 20 = .ok (.invokespecial 18, 3) := by decide +kernel
theorem dX11_init_23 : decode cX11_init 23 = .ok (.putfield 19, 3) := by decide +kernel
theorem dX11_init_26 : decode cX11_init 26 = .ok (.aload_n 0, 1) := by decide +kernel
theorem dX11_init_27 : decode cX11_init 27 = .ok (.new 23, 3) := by decide +kernel
theorem dX11_init_30 : decode cX11_init 30 = .ok (.dup, 1) := by decide +kernel
theorem dX11_init_31 : decode cX11_init 31 = .ok (.invokespecial 25, 3) := by decide +kernel
theorem dX11_init_34 : decode cX11_init 34 = .ok (.putfield 26, 3) := by decide +kernel
theorem dX11_init_37 : decode cX11_init 37 = .ok (.aload_n 0, 1) := by decide +kernel
theorem dX11_init_38 : decode cX11_init 38 = .ok (.new 30, 3) := by decide +kernel
theorem dX11_init_41 : decode cX11_init 41 = .ok (.dup, 1) := by decide +kernel
theorem dX11_init_42 : decode cX11_init 42 = .ok (.invokespecial 32, 3) := by decide +kernel
theorem dX11_init_45 : decode cX11_init 45 = .ok (.putfield 33, 3) := by decide +kernel
theorem dX11_init_48 : decode cX11_init 48 = .ok (.aload_n 0, 1) := by decide +kernel
theorem dX11_init_49 : decode cX11_init 49 = .ok (.new 37, 3) := by decide +kernel
theorem dX11_init_52 : decode cX11_init 52 = .ok (.dup, 1) := by decide +kernel
theorem dX11_init_53 : decode cX11_init 53 = .ok (.invokespecial 39, 3) := by decide +kernel
theorem dX11_init_56 : decode cX11_init 56 = .ok (.putfield 40, 3) := by decide +kernel
theorem dX11_init_59 : decode cX11_init 59 = .ok (.aload_n 0, 1) := by decide +kernel
theorem dX11_init_60 : decode cX11_init 60 = .ok (.new 44, 3) := by decide +kernel
theorem dX11_init_63 : decode cX11_init 63 = .ok (.dup, 1) := by decide +kernel
theorem dX11_init_64 : decode cX11_init 64 = .ok (.invokespecial 46, 3) := by decide +kernel
theorem dX11_init_67 : decode cX11_init 67 = .ok (.putfield 47, 3) := by decide +kernel
theorem dX11_init_70 : decode cX11_init 70 = .ok (.aload_n 0, 1) := by decide +kernel
theorem dX11_init_71 : decode cX11_init 71 = .ok (.new 51, 3) := by decide +kernel
theorem dX11_init_74 : decode cX11_init 74 = .ok (.dup, 1) := by decide +kernel
theorem dX11_init_75 : decode cX11_init 75 = .ok (.invokespecial 53, 3) := by decide +kernel
theorem dX11_init_78 : decode cX11_init 78 = .ok (.putfield 54, 3) := by decide +kernel
theorem dX11_init_81 : decode cX11_init 81 = .ok (.aload_n 0, 1) := by decide +kernel
theorem dX11_init_82 : decode cX11_init 82 = .ok (.new 58, 3) := by decide +kernel
theorem dX11_init_85 : decode cX11_init 85 = .ok (.dup, 1) := by decide +kernel
theorem dX11_init_86 : decode cX11_init 86 = .ok (.invokespecial 60, 3) := by decide +kernel
theorem dX11_init_89 : decode cX11_init 89 = .ok (.putfield 61, 3) := by decide +kernel
theorem dX11_init_92 : decode cX11_init 92 = .ok (.return_, 1) := by decide +kernel
theorem dX11_sign_0 : decode cX11_sign 0 = .ok (.iload_n 1, 1) := by decide +kernel
theorem dX11_sign_1 : decode cX11_sign 1 = .ok (.invokestatic 65, 3) := by decide +kernel
theorem dX11_sign_4 : decode cX11_sign 4 = .ok (.ifCond .ne 5, 3) := by decide +kernel
theorem dX11_sign_7 : decode cX11_sign 7 = .ok (.iconst (-1), 1) := by decide +kernel
theorem dX11_sign_8 : decode cX11_sign 8 = .ok (.ireturn, 1) := by decide +kernel
theorem dX11_sign_9 : decode cX11_sign 9 = .ok (.aload_n 0, 1) := by decide +kernel
theorem dX11_sign_10 : decode cX11_sign 10 = .ok (.getfield 10, 3) := by decide +kernel
theorem dX11_sign_13 : decode cX11_sign 13 = .ok (.getfield 69, 3) := by decide +kernel
theorem dX11_sign_16 : decode cX11_sign 16 = .ok (.sipush 400, 3) := by decide +kernel
theorem dX11_sign_19 : decode cX11_sign 19 = .ok (.if_icmp .lt 6, 3) := by decide +kernel
theorem dX11_sign_22 : decode cX11_sign 22 = .ok (.bipush (-3), 2) := by decide +kernel
theorem dX11_sign_24 : decode cX11_sign 24 = .ok (.ireturn, 1) := by decide +kernel
theorem dX11_sign_25 : decode cX11_sign 25 = .ok (.aload_n 0, 1) := by decide +kernel
theorem dX11_sign_26 : decode cX11_sign 26 = .ok (.getfield 10, 3) := by decide +kernel
theorem dX11_sign_29 : decode cX11_sign 29 = .ok (.iload_n 1, 1) := by decide +kernel
theorem dX11_sign_30 : decode cX11_sign 30 = .ok (.invokevirtual 73, 3) := by decide +kernel
theorem dX11_sign_33 : decode cX11_sign 33 = .ok (.aload_n 0, 1) := by decide +kernel
theorem dX11_sign_34 : decode cX11_sign 34 = .ok (.getfield 10, 3) := by decide +kernel
theorem dX11_sign_37 : decode cX11_sign 37 = .ok (.getfield 69, 3) := by decide +kernel
theorem dX11_sign_40 : decode cX11_sign 40 = .ok (.ireturn, 1) := by decide +kernel
theorem dX11_wipe_0 : decode cX11_wipe 0 = .ok (.aload_n 0, 1) := by decide +kernel
theorem dX11_wipe_1 : decode cX11_wipe 1 = .ok (.getfield 10, 3) := by decide +kernel
theorem dX11_wipe_4 : decode cX11_wipe 4 = .ok (.getfield 69, 3) := by decide +kernel
theorem dX11_wipe_7 : decode cX11_wipe 7 = .ok (.istore_n 1, 1) := by decide +kernel
theorem dX11_wipe_8 : decode cX11_wipe 8 = .ok (.aload_n 0, 1) := by decide +kernel
theorem dX11_wipe_9 : decode cX11_wipe 9 = .ok (.getfield 10, 3) := by decide +kernel
theorem dX11_wipe_12 : decode cX11_wipe 12 = .ok (.invokevirtual 77, 3) := by decide +kernel
theorem dX11_wipe_15 : decode cX11_wipe 15 = .ok (.iload_n 1, 1) := by decide +kernel
theorem dX11_wipe_16 : decode cX11_wipe 16 = .ok (.ireturn, 1) := by decide +kernel
theorem dX11_order_0 : decode cX11_order 0 = .ok (.iload_n 1, 1) := by decide +kernel
theorem dX11_order_1 : decode cX11_order 1 = .ok (.iconst 0, 1) := by decide +kernel
theorem dX11_order_2 : decode cX11_order 2 = .ok (.iconst 3, 1) := by decide +kernel
theorem dX11_order_3 : decode cX11_order 3 = .ok (.invokestatic 80, 3) := by decide +kernel
theorem dX11_order_6 : decode cX11_order 6 = .ok (.ifCond .ne 5, 3) := by decide +kernel
theorem dX11_order_9 : decode cX11_order 9 = .ok (.iconst (-1), 1) := by decide +kernel
theorem dX11_order_10 : decode cX11_order 10 = .ok (.ireturn, 1) := by decide +kernel
theorem dX11_order_11 : decode cX11_order 11 = .ok (.aload_n 0, 1) := by decide +kernel
theorem dX11_order_12 : decode cX11_order 12 = .ok (.getfield 26, 3) := by decide +kernel
theorem dX11_order_15 : decode cX11_order 15 = .ok (.iload_n 1, 1) := by decide +kernel
theorem dX11_order_16 : decode cX11_order 16 = .ok (.invokevirtual 84, 3) := by decide +kernel
theorem dX11_order_19 : decode cX11_order 19 = .ok (.aload_n 0, 1) := by decide +kernel
theorem dX11_order_20 : decode cX11_order 20 = .ok (.getfield 26, 3) := by decide +kernel
theorem dX11_order_23 : decode cX11_order 23 = .ok (.aload_n 0, 1) := by decide +kernel
theorem dX11_order_24 : decode cX11_order 24 = .ok (.getfield 10, 3) := by decide +kernel
theorem dX11_order_27 : decode cX11_order 27 = .ok (.invokevirtual 87, 3) := by decide +kernel
theorem dX11_order_30 : decode cX11_order 30 = .ok (.aload_n 0, 1) := by decide +kernel
theorem dX11_order_31 : decode cX11_order 31 = .ok (.getfield 26, 3) := by decide +kernel
theorem dX11_order_34 : decode cX11_order 34 = .ok (.getfield 91, 3) := by decide +kernel
theorem dX11_order_37 : decode cX11_order 37 = .ok (.ireturn, 1) := by decide +kernel
theorem dX11_context_0 : decode cX11_context 0 = .ok (.aload_n 0, 1) := by decide +kernel
theorem dX11_context_1 : decode cX11_context 1 = .ok (.getfield 26, 3) := by decide +kernel
theorem dX11_context_4 : decode cX11_context 4 = .ok (.aload_n 0, 1) := by decide +kernel
theorem dX11_context_5 : decode cX11_context 5 = .ok (.getfield 10, 3) := by decide +kernel
theorem dX11_context_8 : decode cX11_context 8 = .ok (.invokevirtual 87, 3) := by decide +kernel
theorem dX11_context_11 : decode cX11_context 11 = .ok (.iload_n 1, 1) := by decide +kernel
theorem dX11_context_12 : decode cX11_context 12 = .ok (.iconst 0, 1) := by decide +kernel
theorem dX11_context_13 : decode cX11_context 13 = .ok (.aload_n 0, 1) := by decide +kernel
theorem dX11_context_14 : decode cX11_context 14 = .ok (.getfield 26, 3) := by decide +kernel
theorem dX11_context_17 : decode cX11_context 17 = .ok (.getfield 91, 3) := by decide +kernel
theorem dX11_context_20 : decode cX11_context 20 = .ok (.iconst 1, 1) := by decide +kernel
theorem dX11_context_21 : decode cX11_context 21 = .ok (.isub, 1) := by decide +kernel
theorem dX11_context_22 : decode cX11_context 22 = .ok (.invokestatic 80, 3) := by decide +kernel
theorem dX11_context_25 : decode cX11_context 25 = .ok (.ifCond .eq 20, 3) := by decide +kernel
theorem dX11_context_28 : decode cX11_context 28 = .ok (.iload_n 2, 1) := by decide +kernel
theorem dX11_context_29 : decode cX11_context 29 = .ok (.iconst 0, 1) := by decide +kernel
theorem dX11_context_30 : decode cX11_context 30 = .ok (.aload_n 0, 1) := by decide +kernel
theorem dX11_context_31 : decode cX11_context 31 = .ok (.getfield 26, 3) := by decide +kernel
theorem dX11_context_34 : decode cX11_context 34 = .ok (.getfield 94, 3) := by decide +kernel
theorem dX11_context_37 : decode cX11_context 37 = .ok (.iconst 1, 1) := by decide +kernel
theorem dX11_context_38 : decode cX11_context 38 = .ok (.isub, 1) := by decide +kernel
theorem dX11_context_39 : decode cX11_context 39 = .ok (.invokestatic 80, 3) := by decide +kernel
theorem dX11_context_42 : decode cX11_context 42 = .ok (.ifCond .ne 5, 3) := by decide +kernel
theorem dX11_context_45 : decode cX11_context 45 = .ok (.iconst (-1), 1) := by decide +kernel
theorem dX11_context_46 : decode cX11_context 46 = .ok (.ireturn, 1) := by decide +kernel
theorem dX11_context_47 : decode cX11_context 47 = .ok (.aload_n 0, 1) := by decide +kernel
theorem dX11_context_48 : decode cX11_context 48 = .ok (.getfield 26, 3) := by decide +kernel
theorem dX11_context_51 : decode cX11_context 51 = .ok (.iload_n 1, 1) := by decide +kernel
theorem dX11_context_52 : decode cX11_context 52 = .ok (.iload_n 2, 1) := by decide +kernel
theorem dX11_context_53 : decode cX11_context 53 = .ok (.invokevirtual 97, 3) := by decide +kernel
theorem dX11_context_56 : decode cX11_context 56 = .ok (.ireturn, 1) := by decide +kernel
theorem dX11_count_0 : decode cX11_count 0 = .ok (.aload_n 0, 1) := by decide +kernel
theorem dX11_count_1 : decode cX11_count 1 = .ok (.getfield 26, 3) := by decide +kernel
theorem dX11_count_4 : decode cX11_count 4 = .ok (.aload_n 0, 1) := by decide +kernel
theorem dX11_count_5 : decode cX11_count 5 = .ok (.getfield 10, 3) := by decide +kernel
theorem dX11_count_8 : decode cX11_count 8 = .ok (.invokevirtual 87, 3) := by decide +kernel
theorem dX11_count_11 : decode cX11_count 11 = .ok (.iload_n 1, 1) := by decide +kernel
theorem dX11_count_12 : decode cX11_count 12 = .ok (.iconst 0, 1) := by decide +kernel
theorem dX11_count_13 : decode cX11_count 13 = .ok (.aload_n 0, 1) := by decide +kernel
theorem dX11_count_14 : decode cX11_count 14 = .ok (.getfield 26, 3) := by decide +kernel
theorem dX11_count_17 : decode cX11_count 17 = .ok (.getfield 91, 3) := by decide +kernel
theorem dX11_count_20 : decode cX11_count 20 = .ok (.iconst 1, 1) := by decide +kernel
theorem dX11_count_21 : decode cX11_count 21 = .ok (.isub, 1) := by decide +kernel
theorem dX11_count_22 : decode cX11_count 22 = .ok (.invokestatic 80, 3) := by decide +kernel
theorem dX11_count_25 : decode cX11_count 25 = .ok (.ifCond .eq 13, 3) := by decide +kernel
theorem dX11_count_28 : decode cX11_count 28 = .ok (.iload_n 2, 1) := by decide +kernel
theorem dX11_count_29 : decode cX11_count 29 = .ok (.iconst (-1), 1) := by decide +kernel
theorem dX11_count_30 : decode cX11_count 30 = .ok (.bipush 15, 2) := by decide +kernel
theorem dX11_count_32 : decode cX11_count 32 = .ok (.invokestatic 80, 3) := by decide +kernel
theorem dX11_count_35 : decode cX11_count 35 = .ok (.ifCond .ne 5, 3) := by decide +kernel
theorem dX11_count_38 : decode cX11_count 38 = .ok (.iconst (-1), 1) := by decide +kernel
theorem dX11_count_39 : decode cX11_count 39 = .ok (.ireturn, 1) := by decide +kernel
theorem dX11_count_40 : decode cX11_count 40 = .ok (.iload_n 2, 1) := by decide +kernel
theorem dX11_count_41 : decode cX11_count 41 = .ok (.iconst (-1), 1) := by decide +kernel
theorem dX11_count_42 : decode cX11_count 42 = .ok (.if_icmp .ne 15, 3) := by decide +kernel
theorem dX11_count_45 : decode cX11_count 45 = .ok (.aload_n 0, 1) := by decide +kernel
theorem dX11_count_46 : decode cX11_count 46 = .ok (.getfield 26, 3) := by decide +kernel
theorem dX11_count_49 : decode cX11_count 49 = .ok (.getfield 101, 3) := by decide +kernel
theorem dX11_count_52 : decode cX11_count 52 = .ok (.iload_n 1, 1) := by decide +kernel
theorem dX11_count_53 : decode cX11_count 53 = .ok (.iaload, 1) := by decide +kernel
theorem dX11_count_54 : decode cX11_count 54 = .ok (.goto 12, 3) := by decide +kernel
theorem dX11_count_57 : decode cX11_count 57 = .ok (.aload_n 0, 1) := by decide +kernel
theorem dX11_count_58 : decode cX11_count 58 = .ok (.getfield 26, 3) := by decide +kernel
theorem dX11_count_61 : decode cX11_count 61 = .ok (.iload_n 1, 1) := by decide +kernel
theorem dX11_count_62 : decode cX11_count 62 = .ok (.iload_n 2, 1) := by decide +kernel
theorem dX11_count_63 : decode cX11_count 63 = .ok (.invokevirtual 105, 3) := by decide +kernel
theorem dX11_count_66 : decode cX11_count 66 = .ok (.ireturn, 1) := by decide +kernel
theorem dX11_log_0 : decode cX11_log 0 = .ok (.iload_n 1, 1) := by decide +kernel
theorem dX11_log_1 : decode cX11_log 1 = .ok (.iconst 1, 1) := by decide +kernel
theorem dX11_log_2 : decode cX11_log 2 = .ok (.ldc 108, 2) := by decide +kernel
theorem dX11_log_4 : decode cX11_log 4 = .ok (.invokestatic 80, 3) := by decide +kernel
theorem dX11_log_7 : decode cX11_log 7 = .ok (.ifCond .eq 20, 3) := by decide +kernel
theorem dX11_log_10 : decode cX11_log 10 = .ok (.iload_n 2, 1) := by decide +kernel
theorem dX11_log_11 : decode cX11_log 11 = .ok (.iconst 0, 1) := by decide +kernel
theorem dX11_log_12 : decode cX11_log 12 = .ok (.bipush 24, 2) := by decide +kernel
theorem dX11_log_14 : decode cX11_log 14 = .ok (.invokestatic 80, 3) := by decide +kernel
theorem dX11_log_17 : decode cX11_log 17 = .ok (.ifCond .eq 10, 3) := by decide +kernel
theorem dX11_log_20 : decode cX11_log 20 = .ok (.iload_n 3, 1) := by decide +kernel
theorem dX11_log_21 : decode cX11_log 21 = .ok (.invokestatic 109, 3) := by decide +kernel
theorem dX11_log_24 : decode cX11_log 24 = .ok (.ifCond .ne 7, 3) := by decide +kernel
theorem dX11_log_27 : decode cX11_log 27 = .ok (.ldc2_w 112, 3) := by decide +kernel
theorem dX11_log_30 : decode cX11_log 30 = .ok (.lreturn, 1) := by decide +kernel
theorem dX11_log_31 : decode cX11_log 31 = .ok (.aload_n 0, 1) := by decide +kernel
theorem dX11_log_32 : decode cX11_log 32 = .ok (.getfield 33, 3) := by decide +kernel
theorem dX11_log_35 : decode cX11_log 35 = .ok (.getfield 114, 3) := by decide +kernel
theorem dX11_log_38 : decode cX11_log 38 = .ok (.iload_n 1, 1) := by decide +kernel
theorem dX11_log_39 : decode cX11_log 39 = .ok (.iload_n 2, 1) := by decide +kernel
theorem dX11_log_40 : decode cX11_log 40 = .ok (.iload_n 3, 1) := by decide +kernel
theorem dX11_log_41 : decode cX11_log 41 = .ok (.invokevirtual 118, 3) := by decide +kernel
theorem dX11_log_44 : decode cX11_log 44 = .ok (.lreturn, 1) := by decide +kernel
theorem dX11_weight_0 : decode cX11_weight 0 = .ok (.iload_n 1, 1) := by decide +kernel
theorem dX11_weight_1 : decode cX11_weight 1 = .ok (.invokestatic 65, 3) := by decide +kernel
theorem dX11_weight_4 : decode cX11_weight 4 = .ok (.ifCond .eq 14, 3) := by decide +kernel
theorem dX11_weight_7 : decode cX11_weight 7 = .ok (.iload_n 2, 1) := by decide +kernel
theorem dX11_weight_8 : decode cX11_weight 8 = .ok (.iconst 0, 1) := by decide +kernel
theorem dX11_weight_9 : decode cX11_weight 9 = .ok (.sipush 1000, 3) := by decide +kernel
theorem dX11_weight_12 : decode cX11_weight 12 = .ok (.invokestatic 80, 3) := by decide +kernel
theorem dX11_weight_15 : decode cX11_weight 15 = .ok (.ifCond .ne 5, 3) := by decide +kernel
theorem dX11_weight_18 : decode cX11_weight 18 = .ok (.iconst (-1), 1) := by decide +kernel
theorem dX11_weight_19 : decode cX11_weight 19 = .ok (.ireturn, 1) := by decide +kernel
theorem dX11_weight_20 : decode cX11_weight 20 = .ok (.aload_n 0, 1) := by decide +kernel
theorem dX11_weight_21 : decode cX11_weight 21 = .ok (.getfield 19, 3) := by decide +kernel
theorem dX11_weight_24 : decode cX11_weight 24 = .ok (.iload_n 1, 1) := by decide +kernel
theorem dX11_weight_25 : decode cX11_weight 25 = .ok (.iload_n 2, 1) := by decide +kernel
theorem dX11_weight_26 : decode cX11_weight 26 = .ok (.invokevirtual 124, 3) := by decide +kernel
theorem dX11_weight_29 : decode cX11_weight 29 = .ok (.ireturn, 1) := by decide +kernel
theorem dX11_share_0 : decode cX11_share 0 = .ok (.iload_n 1, 1) := by decide +kernel
theorem dX11_share_1 : decode cX11_share 1 = .ok (.invokestatic 65, 3) := by decide +kernel
theorem dX11_share_4 : decode cX11_share 4 = .ok (.ifCond .ne 13, 3) := by decide +kernel
theorem dX11_share_7 : decode cX11_share 7 = .ok (.new 127, 3) := by decide +kernel
theorem dX11_share_10 : decode cX11_share 10 = .ok (.dup, 1) := by decide +kernel
theorem dX11_share_11 : decode cX11_share 11 = .ok (.ldc 129, 2) := by decide +kernel
theorem dX11_share_13 : decode cX11_share 13 = .ok (.invokespecial 131, 3) := by decide +kernel
theorem dX11_share_16 : decode cX11_share 16 = .ok (.athrow, 1) := by decide +kernel
theorem dX11_share_17 : decode cX11_share 17 = .ok (.aload_n 0, 1) := by decide +kernel
theorem dX11_share_18 : decode cX11_share 18 = .ok (.getfield 19, 3) := by decide +kernel
theorem dX11_share_21 : decode cX11_share 21 = .ok (.getfield 134, 3) := by decide +kernel
theorem dX11_share_24 : decode cX11_share 24 = .ok (.ifCond .ne 13, 3) := by decide +kernel
theorem dX11_share_27 : decode cX11_share 27 = .ok (.new 137, 3) := by decide +kernel
theorem dX11_share_30 : decode cX11_share 30 = .ok (.dup, 1) := by decide +kernel
theorem dX11_share_31 : decode cX11_share 31 = .ok (.ldc 139, 2) := by decide +kernel
theorem dX11_share_33 : decode cX11_share 33 = .ok (.invokespecial 141, 3) := by decide +kernel
theorem dX11_share_36 : decode cX11_share 36 = .ok (.athrow, 1) := by decide +kernel
theorem dX11_share_37 : decode cX11_share 37 = .ok (.aload_n 0, 1) := by decide +kernel
theorem dX11_share_38 : decode cX11_share 38 = .ok (.getfield 19, 3) := by decide +kernel
theorem dX11_share_41 : decode cX11_share 41 = .ok (.getfield 142, 3) := by decide +kernel
theorem dX11_share_44 : decode cX11_share 44 = .ok (.iload_n 1, 1) := by decide +kernel
theorem dX11_share_45 : decode cX11_share 45 = .ok (.iaload, 1) := by decide +kernel
theorem dX11_share_46 : decode cX11_share 46 = .ok (.i2l, 1) := by decide +kernel
theorem dX11_share_47 : decode cX11_share 47 = .ok (.ldc2_w 145, 3) := by decide +kernel
theorem dX11_share_50 : decode cX11_share 50 = .ok (.lmul, 1) := by decide +kernel
theorem dX11_share_51 : decode cX11_share 51 = .ok (.aload_n 0, 1) := by decide +kernel
theorem dX11_share_52 : decode cX11_share 52 = .ok (.getfield 19, 3) := by decide +kernel
theorem dX11_share_55 : decode cX11_share 55 = .ok (.getfield 134, 3) := by decide +kernel
theorem dX11_share_58 : decode cX11_share 58 = .ok (.i2l, 1) := by decide +kernel
theorem dX11_share_59 : decode cX11_share 59 = .ok (.ldiv, 1) := by decide +kernel
theorem dX11_share_60 : decode cX11_share 60 = .ok (.lreturn, 1) := by decide +kernel
theorem dX11_cost_0 : decode cX11_cost 0 = .ok (.iload_n 1, 1) := by decide +kernel
theorem dX11_cost_1 : decode cX11_cost 1 = .ok (.invokestatic 147, 3) := by decide +kernel
theorem dX11_cost_4 : decode cX11_cost 4 = .ok (.ifCond .eq 20, 3) := by decide +kernel
theorem dX11_cost_7 : decode cX11_cost 7 = .ok (.iload_n 2, 1) := by decide +kernel
theorem dX11_cost_8 : decode cX11_cost 8 = .ok (.iconst 0, 1) := by decide +kernel
theorem dX11_cost_9 : decode cX11_cost 9 = .ok (.bipush 24, 2) := by decide +kernel
theorem dX11_cost_11 : decode cX11_cost 11 = .ok (.invokestatic 80, 3) := by decide +kernel
theorem dX11_cost_14 : decode cX11_cost 14 = .ok (.ifCond .eq 10, 3) := by decide +kernel
theorem dX11_cost_17 : decode cX11_cost 17 = .ok (.iload_n 3, 1) := by decide +kernel
theorem dX11_cost_18 : decode cX11_cost 18 = .ok (.invokestatic 109, 3) := by decide +kernel
theorem dX11_cost_21 : decode cX11_cost 21 = .ok (.ifCond .ne 7, 3) := by decide +kernel
theorem dX11_cost_24 : decode cX11_cost 24 = .ok (.ldc2_w 112, 3) := by decide +kernel
theorem dX11_cost_27 : decode cX11_cost 27 = .ok (.lreturn, 1) := by decide +kernel
theorem dX11_cost_28 : decode cX11_cost 28 = .ok (.iload_n 1, 1) := by decide +kernel
theorem dX11_cost_29 : decode cX11_cost 29 = .ok (.iconst 1, 1) := by decide +kernel
theorem dX11_cost_30 : decode cX11_cost 30 = .ok (.if_icmp .ne 21, 3) := by decide +kernel
theorem dX11_cost_33 : decode cX11_cost 33 = .ok (.aload_n 0, 1) := by decide +kernel
theorem dX11_cost_34 : decode cX11_cost 34 = .ok (.getfield 19, 3) := by decide +kernel
theorem dX11_cost_37 : decode cX11_cost 37 = .ok (.aload_n 0, 1) := by decide +kernel
theorem dX11_cost_38 : decode cX11_cost 38 = .ok (.getfield 10, 3) := by decide +kernel
theorem dX11_cost_41 : decode cX11_cost 41 = .ok (.invokevirtual 150, 3) := by decide +kernel
theorem dX11_cost_44 : decode cX11_cost 44 = .ok (.ifCond .ne 7, 3) := by decide +kernel
theorem dX11_cost_47 : decode cX11_cost 47 = .ok (.ldc2_w 154, 3) := by decide +kernel
theorem dX11_cost_50 : decode cX11_cost 50 = .ok (.lreturn, 1) := by decide +kernel
theorem dX11_cost_51 : decode cX11_cost 51 = .ok (.aload_n 0, 1) := by decide +kernel
theorem dX11_cost_52 : decode cX11_cost 52 = .ok (.iload_n 1, 1) := by decide +kernel
theorem dX11_cost_53 : decode cX11_cost 53 = .ok (.iload_n 2, 1) := by decide +kernel
theorem dX11_cost_54 : decode cX11_cost 54 = .ok (.iload_n 3, 1) := by decide +kernel
theorem dX11_cost_55 : decode cX11_cost 55 = .ok (.invokevirtual 156, 3) := by decide +kernel
theorem dX11_cost_58 : decode cX11_cost 58 = .ok (.lreturn, 1) := by decide +kernel
theorem dX11_digits_0 : decode cX11_digits 0 = .ok (.iload_n 1, 1) := by decide +kernel
theorem dX11_digits_1 : decode cX11_digits 1 = .ok (.invokestatic 147, 3) := by decide +kernel
theorem dX11_digits_4 : decode cX11_digits 4 = .ok (.ifCond .eq 13, 3) := by decide +kernel
theorem dX11_digits_7 : decode cX11_digits 7 = .ok (.iload_n 2, 1) := by decide +kernel
theorem dX11_digits_8 : decode cX11_digits 8 = .ok (.iconst 0, 1) := by decide +kernel
theorem dX11_digits_9 : decode cX11_digits 9 = .ok (.ldc 159, 2) := by decide +kernel
theorem dX11_digits_11 : decode cX11_digits 11 = .ok (.invokestatic 80, 3) := by decide +kernel
theorem dX11_digits_14 : decode cX11_digits 14 = .ok (.ifCond .ne 5, 3) := by decide +kernel
theorem dX11_digits_17 : decode cX11_digits 17 = .ok (.iconst (-1), 1) := by decide +kernel
theorem dX11_digits_18 : decode cX11_digits 18 = .ok (.ireturn, 1) := by decide +kernel
theorem dX11_digits_19 : decode cX11_digits 19 = .ok (.iload_n 1, 1) := by decide +kernel
theorem dX11_digits_20 : decode cX11_digits 20 = .ok (.iconst 1, 1) := by decide +kernel
theorem dX11_digits_21 : decode cX11_digits 21 = .ok (.if_icmp .ne 20, 3) := by decide +kernel
theorem dX11_digits_24 : decode cX11_digits 24 = .ok (.aload_n 0, 1) := by decide +kernel
theorem dX11_digits_25 : decode cX11_digits 25 = .ok (.getfield 19, 3) := by decide +kernel
theorem dX11_digits_28 : decode cX11_digits 28 = .ok (.aload_n 0, 1) := by decide +kernel
theorem dX11_digits_29 : decode cX11_digits 29 = .ok (.getfield 10, 3) := by decide +kernel
theorem dX11_digits_32 : decode cX11_digits 32 = .ok (.invokevirtual 150, 3) := by decide +kernel
theorem dX11_digits_35 : decode cX11_digits 35 = .ok (.ifCond .ne 6, 3) := by decide +kernel
theorem dX11_digits_38 : decode cX11_digits 38 = .ok (.bipush (-2), 2) := by decide +kernel
theorem dX11_digits_40 : decode cX11_digits 40 = .ok (.ireturn, 1) := by decide +kernel
theorem dX11_digits_41 : decode cX11_digits 41 = .ok (.iconst 0, 1) := by decide +kernel
theorem dX11_digits_42 : decode cX11_digits 42 = .ok (.istore_n 3, 1) := by decide +kernel
theorem dX11_digits_43 : decode cX11_digits 43 = .ok (.iload_n 3, 1) := by decide +kernel
theorem dX11_digits_44 : decode cX11_digits 44 = .ok (.bipush 24, 2) := by decide +kernel
theorem dX11_digits_46 : decode cX11_digits 46 = .ok (.if_icmp .gt 42, 3) := by decide +kernel
theorem dX11_digits_49 : decode cX11_digits 49 = .ok (.aload_n 0, 1) := by decide +kernel
theorem dX11_digits_50 : decode cX11_digits 50 = .ok (.iload_n 1, 1) := by decide +kernel
theorem dX11_digits_51 : decode cX11_digits 51 = .ok (.iload_n 3, 1) := by decide +kernel
theorem dX11_digits_52 : decode cX11_digits 52 = .ok (.iconst 1, 1) := by decide +kernel
theorem dX11_digits_53 : decode cX11_digits 53 = .ok (.invokevirtual 156, 3) := by decide +kernel
theorem dX11_digits_56 : decode cX11_digits 56 = .ok (.aload_n 0, 1) := by decide +kernel
theorem dX11_digits_57 : decode cX11_digits 57 = .ok (.iload_n 1, 1) := by decide +kernel
theorem dX11_digits_58 : decode cX11_digits 58 = .ok (.iload_n 3, 1) := by decide +kernel
theorem dX11_digits_59 : decode cX11_digits 59 = .ok (.iconst 0, 1) := by decide +kernel
theorem dX11_digits_60 : decode cX11_digits 60 = .ok (.invokevirtual 156, 3) := by decide +kernel
theorem dX11_digits_63 : decode cX11_digits 63 = .ok (.lsub, 1) := by decide +kernel
theorem dX11_digits_64 : decode cX11_digits 64 = .ok (.lstore 4, 2) := by decide +kernel
theorem dX11_digits_66 : decode cX11_digits 66 = .ok (.lload 4, 2) := by decide +kernel
theorem dX11_digits_68 : decode cX11_digits 68 = .ok (.ldc2_w 160, 3) := by decide +kernel
theorem dX11_digits_71 : decode cX11_digits 71 = .ok (.lmul, 1) := by decide +kernel
theorem dX11_digits_72 : decode cX11_digits 72 = .ok (.iload_n 2, 1) := by decide +kernel
theorem dX11_digits_73 : decode cX11_digits 73 = .ok (.i2l, 1) := by decide +kernel
theorem dX11_digits_74 : decode cX11_digits 74 = .ok (.iload_n 3, 1) := by decide +kernel
theorem dX11_digits_75 : decode cX11_digits 75 = .ok (.lshl, 1) := by decide +kernel
theorem dX11_digits_76 : decode cX11_digits 76 = .ok (.lcmp, 1) := by decide +kernel
theorem dX11_digits_77 : decode cX11_digits 77 = .ok (.ifCond .gt 5, 3) := by decide +kernel
theorem dX11_digits_80 : decode cX11_digits 80 = .ok (.iload_n 3, 1) := by decide +kernel
theorem dX11_digits_81 : decode cX11_digits 81 = .ok (.ireturn, 1) := by decide +kernel
theorem dX11_digits_82 : decode cX11_digits 82 = .ok (.iinc 3 1, 3) := by decide +kernel
theorem dX11_digits_85 : decode cX11_digits 85 = .ok (.goto (-42), 3) := by decide +kernel
theorem dX11_digits_88 : decode cX11_digits 88 = .ok (.bipush (-2), 2) := by decide +kernel
theorem dX11_digits_90 : decode cX11_digits 90 = .ok (.ireturn, 1) := by decide +kernel
theorem dX11_width_0 : decode cX11_width 0 = .ok (.iload_n 1, 1) := by decide +kernel
theorem dX11_width_1 : decode cX11_width 1 = .ok (.iconst 0, 1) := by decide +kernel
theorem dX11_width_2 : decode cX11_width 2 = .ok (.iconst 1, 1) := by decide +kernel
theorem dX11_width_3 : decode cX11_width 3 = .ok (.invokestatic 80, 3) := by decide +kernel
theorem dX11_width_6 : decode cX11_width 6 = .ok (.ifCond .eq 10, 3) := by decide +kernel
theorem dX11_width_9 : decode cX11_width 9 = .ok (.iload_n 2, 1) := by decide +kernel
theorem dX11_width_10 : decode cX11_width 10 = .ok (.invokestatic 65, 3) := by decide +kernel
theorem dX11_width_13 : decode cX11_width 13 = .ok (.ifCond .ne 5, 3) := by decide +kernel
theorem dX11_width_16 : decode cX11_width 16 = .ok (.iconst (-1), 1) := by decide +kernel
theorem dX11_width_17 : decode cX11_width 17 = .ok (.ireturn, 1) := by decide +kernel
theorem dX11_width_18 : decode cX11_width 18 = .ok (.aload_n 0, 1) := by decide +kernel
theorem dX11_width_19 : decode cX11_width 19 = .ok (.getfield 40, 3) := by decide +kernel
theorem dX11_width_22 : decode cX11_width 22 = .ok (.aload_n 0, 1) := by decide +kernel
theorem dX11_width_23 : decode cX11_width 23 = .ok (.getfield 10, 3) := by decide +kernel
theorem dX11_width_26 : decode cX11_width 26 = .ok (.invokevirtual 162, 3) := by decide +kernel
theorem dX11_width_29 : decode cX11_width 29 = .ok (.aload_n 0, 1) := by decide +kernel
theorem dX11_width_30 : decode cX11_width 30 = .ok (.iload_n 1, 1) := by decide +kernel
theorem dX11_width_31 : decode cX11_width 31 = .ok (.iload_n 2, 1) := by decide +kernel
theorem dX11_width_32 : decode cX11_width 32 = .ok (.invokevirtual 163, 3) := by decide +kernel
theorem dX11_width_35 : decode cX11_width 35 = .ok (.ireturn, 1) := by decide +kernel
theorem dX11_bits_0 : decode cX11_bits 0 = .ok (.iload_n 1, 1) := by decide +kernel
theorem dX11_bits_1 : decode cX11_bits 1 = .ok (.iconst 0, 1) := by decide +kernel
theorem dX11_bits_2 : decode cX11_bits 2 = .ok (.iconst 1, 1) := by decide +kernel
theorem dX11_bits_3 : decode cX11_bits 3 = .ok (.invokestatic 80, 3) := by decide +kernel
theorem dX11_bits_6 : decode cX11_bits 6 = .ok (.ifCond .ne 5, 3) := by decide +kernel
theorem dX11_bits_9 : decode cX11_bits 9 = .ok (.iconst (-1), 1) := by decide +kernel
theorem dX11_bits_10 : decode cX11_bits 10 = .ok (.ireturn, 1) := by decide +kernel
theorem dX11_bits_11 : decode cX11_bits 11 = .ok (.aload_n 0, 1) := by decide +kernel
theorem dX11_bits_12 : decode cX11_bits 12 = .ok (.getfield 40, 3) := by decide +kernel
theorem dX11_bits_15 : decode cX11_bits 15 = .ok (.aload_n 0, 1) := by decide +kernel
theorem dX11_bits_16 : decode cX11_bits 16 = .ok (.getfield 10, 3) := by decide +kernel
theorem dX11_bits_19 : decode cX11_bits 19 = .ok (.invokevirtual 162, 3) := by decide +kernel
theorem dX11_bits_22 : decode cX11_bits 22 = .ok (.iconst 0, 1) := by decide +kernel
theorem dX11_bits_23 : decode cX11_bits 23 = .ok (.istore_n 2, 1) := by decide +kernel
theorem dX11_bits_24 : decode cX11_bits 24 = .ok (.iconst 0, 1) := by decide +kernel
theorem dX11_bits_25 : decode cX11_bits 25 = .ok (.istore_n 3, 1) := by decide +kernel
theorem dX11_bits_26 : decode cX11_bits 26 = .ok (.iload_n 3, 1) := by decide +kernel
theorem dX11_bits_27 : decode cX11_bits 27 = .ok (.bipush 16, 2) := by decide +kernel
theorem dX11_bits_29 : decode cX11_bits 29 = .ok (.if_icmp .ge 28, 3) := by decide +kernel
theorem dX11_bits_32 : decode cX11_bits 32 = .ok (.iload_n 2, 1) := by decide +kernel
theorem dX11_bits_33 : decode cX11_bits 33 = .ok (.aload_n 0, 1) := by decide +kernel
theorem dX11_bits_34 : decode cX11_bits 34 = .ok (.getfield 10, 3) := by decide +kernel
theorem dX11_bits_37 : decode cX11_bits 37 = .ok (.getfield 166, 3) := by decide +kernel
theorem dX11_bits_40 : decode cX11_bits 40 = .ok (.iload_n 3, 1) := by decide +kernel
theorem dX11_bits_41 : decode cX11_bits 41 = .ok (.iaload, 1) := by decide +kernel
theorem dX11_bits_42 : decode cX11_bits 42 = .ok (.aload_n 0, 1) := by decide +kernel
theorem dX11_bits_43 : decode cX11_bits 43 = .ok (.iload_n 1, 1) := by decide +kernel
theorem dX11_bits_44 : decode cX11_bits 44 = .ok (.iload_n 3, 1) := by decide +kernel
theorem dX11_bits_45 : decode cX11_bits 45 = .ok (.invokevirtual 163, 3) := by decide +kernel
theorem dX11_bits_48 : decode cX11_bits 48 = .ok (.imul, 1) := by decide +kernel
theorem dX11_bits_49 : decode cX11_bits 49 = .ok (.iadd, 1) := by decide +kernel
theorem dX11_bits_50 : decode cX11_bits 50 = .ok (.istore_n 2, 1) := by decide +kernel
theorem dX11_bits_51 : decode cX11_bits 51 = .ok (.iinc 3 1, 3) := by decide +kernel
theorem dX11_bits_54 : decode cX11_bits 54 = .ok (.goto (-28), 3) := by decide +kernel
theorem dX11_bits_57 : decode cX11_bits 57 = .ok (.iload_n 2, 1) := by decide +kernel
theorem dX11_bits_58 : decode cX11_bits 58 = .ok (.ireturn, 1) := by decide +kernel
theorem dX11_pieces_0 : decode cX11_pieces 0 = .ok (.iload_n 1, 1) := by decide +kernel
theorem dX11_pieces_1 : decode cX11_pieces 1 = .ok (.iconst 0, 1) := by decide +kernel
theorem dX11_pieces_2 : decode cX11_pieces 2 = .ok (.iconst 1, 1) := by decide +kernel
theorem dX11_pieces_3 : decode cX11_pieces 3 = .ok (.invokestatic 80, 3) := by decide +kernel
theorem dX11_pieces_6 : decode cX11_pieces 6 = .ok (.ifCond .ne 5, 3) := by decide +kernel
theorem dX11_pieces_9 : decode cX11_pieces 9 = .ok (.iconst (-1), 1) := by decide +kernel
theorem dX11_pieces_10 : decode cX11_pieces 10 = .ok (.ireturn, 1) := by decide +kernel
theorem dX11_pieces_11 : decode cX11_pieces 11 = .ok (.aload_n 0, 1) := by decide +kernel
theorem dX11_pieces_12 : decode cX11_pieces 12 = .ok (.iload_n 1, 1) := by decide +kernel
theorem dX11_pieces_13 : decode cX11_pieces 13 = .ok (.invokevirtual 169, 3) := by decide +kernel
theorem dX11_pieces_16 : decode cX11_pieces 16 = .ok (.getfield 173, 3) := by decide +kernel
theorem dX11_pieces_19 : decode cX11_pieces 19 = .ok (.ireturn, 1) := by decide +kernel
theorem dX11_piece_0 : decode cX11_piece 0 = .ok (.iload_n 1, 1) := by decide +kernel
theorem dX11_piece_1 : decode cX11_piece 1 = .ok (.iconst 0, 1) := by decide +kernel
theorem dX11_piece_2 : decode cX11_piece 2 = .ok (.iconst 1, 1) := by decide +kernel
theorem dX11_piece_3 : decode cX11_piece 3 = .ok (.invokestatic 80, 3) := by decide +kernel
theorem dX11_piece_6 : decode cX11_piece 6 = .ok (.ifCond .eq 12, 3) := by decide +kernel
theorem dX11_piece_9 : decode cX11_piece 9 = .ok (.iload_n 3, 1) := by decide +kernel
theorem dX11_piece_10 : decode cX11_piece 10 = .ok (.iconst 0, 1) := by decide +kernel
theorem dX11_piece_11 : decode cX11_piece 11 = .ok (.iconst 2, 1) := by decide +kernel
theorem dX11_piece_12 : decode cX11_piece 12 = .ok (.invokestatic 80, 3) := by decide +kernel
theorem dX11_piece_15 : decode cX11_piece 15 = .ok (.ifCond .ne 5, 3) := by decide +kernel
theorem dX11_piece_18 : decode cX11_piece 18 = .ok (.iconst (-1), 1) := by decide +kernel
theorem dX11_piece_19 : decode cX11_piece 19 = .ok (.ireturn, 1) := by decide +kernel
theorem dX11_piece_20 : decode cX11_piece 20 = .ok (.aload_n 0, 1) := by decide +kernel
theorem dX11_piece_21 : decode cX11_piece 21 = .ok (.iload_n 1, 1) := by decide +kernel
theorem dX11_piece_22 : decode cX11_piece 22 = .ok (.invokevirtual 169, 3) := by decide +kernel
theorem dX11_piece_25 : decode cX11_piece 25 = .ok (.astore 4, 2) := by decide +kernel
theorem dX11_piece_27 : decode cX11_piece 27 = .ok (.iload_n 2, 1) := by decide +kernel
theorem dX11_piece_28 : decode cX11_piece 28 = .ok (.iconst 0, 1) := by decide +kernel
theorem dX11_piece_29 : decode cX11_piece 29 = .ok (.aload 4, 2) := by decide +kernel
theorem dX11_piece_31 : decode cX11_piece 31 = .ok (.getfield 173, 3) := by decide +kernel
theorem dX11_piece_34 : decode cX11_piece 34 = .ok (.iconst 1, 1) := by decide +kernel
theorem dX11_piece_35 : decode cX11_piece 35 = .ok (.isub, 1) := by decide +kernel
theorem dX11_piece_36 : decode cX11_piece 36 = .ok (.invokestatic 80, 3) := by decide +kernel
theorem dX11_piece_39 : decode cX11_piece 39 = .ok (.ifCond .ne 5, 3) := by decide +kernel
theorem dX11_piece_42 : decode cX11_piece 42 = .ok (.iconst (-1), 1) := by decide +kernel
theorem dX11_piece_43 : decode cX11_piece 43 = .ok (.ireturn, 1) := by decide +kernel
theorem dX11_piece_44 : decode cX11_piece 44 = .ok (.iload_n 3, 1) := by decide +kernel
theorem dX11_piece_45 : decode cX11_piece 45 = .ok (.ifCond .ne 11, 3) := by decide +kernel
theorem dX11_piece_48 : decode cX11_piece 48 = .ok (.aload 4, 2) := by decide +kernel
theorem dX11_piece_50 : decode cX11_piece 50 = .ok (.getfield 178, 3) := by decide +kernel
theorem dX11_piece_53 : decode cX11_piece 53 = .ok (.iload_n 2, 1) := by decide +kernel
theorem dX11_piece_54 : decode cX11_piece 54 = .ok (.iaload, 1) := by decide +kernel
theorem dX11_piece_55 : decode cX11_piece 55 = .ok (.ireturn, 1) := by decide +kernel
theorem dX11_piece_56 : decode cX11_piece 56 = .ok (.iload_n 3, 1) := by decide +kernel
theorem dX11_piece_57 : decode cX11_piece 57 = .ok (.iconst 1, 1) := by decide +kernel
theorem dX11_piece_58 : decode cX11_piece 58 = .ok (.if_icmp .ne 13, 3) := by decide +kernel
theorem dX11_piece_61 : decode cX11_piece 61 = .ok (.aload 4, 2) := by decide +kernel
theorem dX11_piece_63 : decode cX11_piece 63 = .ok (.getfield 181, 3) := by decide +kernel
theorem dX11_piece_66 : decode cX11_piece 66 = .ok (.iload_n 2, 1) := by decide +kernel
theorem dX11_piece_67 : decode cX11_piece 67 = .ok (.iaload, 1) := by decide +kernel
theorem dX11_piece_68 : decode cX11_piece 68 = .ok (.goto 10, 3) := by decide +kernel
theorem dX11_piece_71 : decode cX11_piece 71 = .ok (.aload 4, 2) := by decide +kernel
theorem dX11_piece_73 : decode cX11_piece 73 = .ok (.getfield 184, 3) := by decide +kernel
theorem dX11_piece_76 : decode cX11_piece 76 = .ok (.iload_n 2, 1) := by decide +kernel
theorem dX11_piece_77 : decode cX11_piece 77 = .ok (.iaload, 1) := by decide +kernel
theorem dX11_piece_78 : decode cX11_piece 78 = .ok (.ireturn, 1) := by decide +kernel
theorem dX11_grammar_0 : decode cX11_grammar 0 = .ok (.iload_n 1, 1) := by decide +kernel
theorem dX11_grammar_1 : decode cX11_grammar 1 = .ok (.iconst 0, 1) := by decide +kernel
theorem dX11_grammar_2 : decode cX11_grammar 2 = .ok (.iconst 2, 1) := by decide +kernel
theorem dX11_grammar_3 : decode cX11_grammar 3 = .ok (.invokestatic 80, 3) := by decide +kernel
theorem dX11_grammar_6 : decode cX11_grammar 6 = .ok (.ifCond .ne 5, 3) := by decide +kernel
theorem dX11_grammar_9 : decode cX11_grammar 9 = .ok (.iconst (-1), 1) := by decide +kernel
theorem dX11_grammar_10 : decode cX11_grammar 10 = .ok (.ireturn, 1) := by decide +kernel
theorem dX11_grammar_11 : decode cX11_grammar 11 = .ok (.aload_n 0, 1) := by decide +kernel
theorem dX11_grammar_12 : decode cX11_grammar 12 = .ok (.getfield 61, 3) := by decide +kernel
theorem dX11_grammar_15 : decode cX11_grammar 15 = .ok (.aload_n 0, 1) := by decide +kernel
theorem dX11_grammar_16 : decode cX11_grammar 16 = .ok (.getfield 10, 3) := by decide +kernel
theorem dX11_grammar_19 : decode cX11_grammar 19 = .ok (.invokevirtual 187, 3) := by decide +kernel
theorem dX11_grammar_22 : decode cX11_grammar 22 = .ok (.iload_n 1, 1) := by decide +kernel
theorem dX11_grammar_23 : decode cX11_grammar 23 = .ok (.ifCond .ne 21, 3) := by decide +kernel
theorem dX11_grammar_26 : decode cX11_grammar 26 = .ok (.aload_n 0, 1) := by decide +kernel
theorem dX11_grammar_27 : decode cX11_grammar 27 = .ok (.getfield 61, 3) := by decide +kernel
theorem dX11_grammar_30 : decode cX11_grammar 30 = .ok (.getfield 188, 3) := by decide +kernel
theorem dX11_grammar_33 : decode cX11_grammar 33 = .ok (.iconst 2, 1) := by decide +kernel
theorem dX11_grammar_34 : decode cX11_grammar 34 = .ok (.aload_n 0, 1) := by decide +kernel
theorem dX11_grammar_35 : decode cX11_grammar 35 = .ok (.getfield 61, 3) := by decide +kernel
theorem dX11_grammar_38 : decode cX11_grammar 38 = .ok (.getfield 191, 3) := by decide +kernel
theorem dX11_grammar_41 : decode cX11_grammar 41 = .ok (.imul, 1) := by decide +kernel
theorem dX11_grammar_42 : decode cX11_grammar 42 = .ok (.iadd, 1) := by decide +kernel
theorem dX11_grammar_43 : decode cX11_grammar 43 = .ok (.ireturn, 1) := by decide +kernel
theorem dX11_grammar_44 : decode cX11_grammar 44 = .ok (.iload_n 1, 1) := by decide +kernel
theorem dX11_grammar_45 : decode cX11_grammar 45 = .ok (.iconst 1, 1) := by decide +kernel
theorem dX11_grammar_46 : decode cX11_grammar 46 = .ok (.if_icmp .ne 13, 3) := by decide +kernel
theorem dX11_grammar_49 : decode cX11_grammar 49 = .ok (.aload_n 0, 1) := by decide +kernel
theorem dX11_grammar_50 : decode cX11_grammar 50 = .ok (.getfield 61, 3) := by decide +kernel
theorem dX11_grammar_53 : decode cX11_grammar 53 = .ok (.getfield 191, 3) := by decide +kernel
theorem dX11_grammar_56 : decode cX11_grammar 56 = .ok (.goto 10, 3) := by decide +kernel
theorem dX11_grammar_59 : decode cX11_grammar 59 = .ok (.aload_n 0, 1) := by decide +kernel
theorem dX11_grammar_60 : decode cX11_grammar 60 = .ok (.getfield 61, 3) := by decide +kernel
theorem dX11_grammar_63 : decode cX11_grammar 63 = .ok (.getfield 188, 3) := by decide +kernel
theorem dX11_grammar_66 : decode cX11_grammar 66 = .ok (.ireturn, 1) := by decide +kernel
theorem dX11_rule_0 : decode cX11_rule 0 = .ok (.aload_n 0, 1) := by decide +kernel
theorem dX11_rule_1 : decode cX11_rule 1 = .ok (.getfield 61, 3) := by decide +kernel
theorem dX11_rule_4 : decode cX11_rule 4 = .ok (.aload_n 0, 1) := by decide +kernel
theorem dX11_rule_5 : decode cX11_rule 5 = .ok (.getfield 10, 3) := by decide +kernel
theorem dX11_rule_8 : decode cX11_rule 8 = .ok (.invokevirtual 187, 3) := by decide +kernel
theorem dX11_rule_11 : decode cX11_rule 11 = .ok (.iload_n 1, 1) := by decide +kernel
theorem dX11_rule_12 : decode cX11_rule 12 = .ok (.bipush 16, 2) := by decide +kernel
theorem dX11_rule_14 : decode cX11_rule 14 = .ok (.bipush 16, 2) := by decide +kernel
theorem dX11_rule_16 : decode cX11_rule 16 = .ok (.aload_n 0, 1) := by decide +kernel
theorem dX11_rule_17 : decode cX11_rule 17 = .ok (.getfield 61, 3) := by decide +kernel
theorem dX11_rule_20 : decode cX11_rule 20 = .ok (.getfield 191, 3) := by decide +kernel
theorem dX11_rule_23 : decode cX11_rule 23 = .ok (.iadd, 1) := by decide +kernel
theorem dX11_rule_24 : decode cX11_rule 24 = .ok (.iconst 1, 1) := by decide +kernel
theorem dX11_rule_25 : decode cX11_rule 25 = .ok (.isub, 1) := by decide +kernel
theorem dX11_rule_26 : decode cX11_rule 26 = .ok (.invokestatic 80, 3) := by decide +kernel
theorem dX11_rule_29 : decode cX11_rule 29 = .ok (.ifCond .eq 10, 3) := by decide +kernel
theorem dX11_rule_32 : decode cX11_rule 32 = .ok (.iload_n 2, 1) := by decide +kernel
theorem dX11_rule_33 : decode cX11_rule 33 = .ok (.invokestatic 109, 3) := by decide +kernel
theorem dX11_rule_36 : decode cX11_rule 36 = .ok (.ifCond .ne 5, 3) := by decide +kernel
theorem dX11_rule_39 : decode cX11_rule 39 = .ok (.iconst (-1), 1) := by decide +kernel
theorem dX11_rule_40 : decode cX11_rule 40 = .ok (.ireturn, 1) := by decide +kernel
theorem dX11_rule_41 : decode cX11_rule 41 = .ok (.iload_n 2, 1) := by decide +kernel
theorem dX11_rule_42 : decode cX11_rule 42 = .ok (.ifCond .ne 18, 3) := by decide +kernel
theorem dX11_rule_45 : decode cX11_rule 45 = .ok (.aload_n 0, 1) := by decide +kernel
theorem dX11_rule_46 : decode cX11_rule 46 = .ok (.getfield 61, 3) := by decide +kernel
theorem dX11_rule_49 : decode cX11_rule 49 = .ok (.getfield 192, 3) := by decide +kernel
theorem dX11_rule_52 : decode cX11_rule 52 = .ok (.iload_n 1, 1) := by decide +kernel
theorem dX11_rule_53 : decode cX11_rule 53 = .ok (.bipush 16, 2) := by decide +kernel
theorem dX11_rule_55 : decode cX11_rule 55 = .ok (.isub, 1) := by decide +kernel
theorem dX11_rule_56 : decode cX11_rule 56 = .ok (.iaload, 1) := by decide +kernel
theorem dX11_rule_57 : decode cX11_rule 57 = .ok (.goto 15, 3) := by decide +kernel
theorem dX11_rule_60 : decode cX11_rule 60 = .ok (.aload_n 0, 1) := by decide +kernel
theorem dX11_rule_61 : decode cX11_rule 61 = .ok (.getfield 61, 3) := by decide +kernel
theorem dX11_rule_64 : decode cX11_rule 64 = .ok (.getfield 195, 3) := by decide +kernel
theorem dX11_rule_67 : decode cX11_rule 67 = .ok (.iload_n 1, 1) := by decide +kernel
theorem dX11_rule_68 : decode cX11_rule 68 = .ok (.bipush 16, 2) := by decide +kernel
theorem dX11_rule_70 : decode cX11_rule 70 = .ok (.isub, 1) := by decide +kernel
theorem dX11_rule_71 : decode cX11_rule 71 = .ok (.iaload, 1) := by decide +kernel
theorem dX11_rule_72 : decode cX11_rule 72 = .ok (.ireturn, 1) := by decide +kernel
theorem dX11_symbol_0 : decode cX11_symbol 0 = .ok (.aload_n 0, 1) := by decide +kernel
theorem dX11_symbol_1 : decode cX11_symbol 1 = .ok (.getfield 61, 3) := by decide +kernel
theorem dX11_symbol_4 : decode cX11_symbol 4 = .ok (.aload_n 0, 1) := by decide +kernel
theorem dX11_symbol_5 : decode cX11_symbol 5 = .ok (.getfield 10, 3) := by decide +kernel
theorem dX11_symbol_8 : decode cX11_symbol 8 = .ok (.invokevirtual 187, 3) := by decide +kernel
theorem dX11_symbol_11 : decode cX11_symbol 11 = .ok (.iload_n 1, 1) := by decide +kernel
theorem dX11_symbol_12 : decode cX11_symbol 12 = .ok (.iconst 0, 1) := by decide +kernel
theorem dX11_symbol_13 : decode cX11_symbol 13 = .ok (.aload_n 0, 1) := by decide +kernel
theorem dX11_symbol_14 : decode cX11_symbol 14 = .ok (.getfield 61, 3) := by decide +kernel
theorem dX11_symbol_17 : decode cX11_symbol 17 = .ok (.getfield 188, 3) := by decide +kernel
theorem dX11_symbol_20 : decode cX11_symbol 20 = .ok (.iconst 1, 1) := by decide +kernel
theorem dX11_symbol_21 : decode cX11_symbol 21 = .ok (.isub, 1) := by decide +kernel
theorem dX11_symbol_22 : decode cX11_symbol 22 = .ok (.invokestatic 80, 3) := by decide +kernel
theorem dX11_symbol_25 : decode cX11_symbol 25 = .ok (.ifCond .ne 13, 3) := by decide +kernel
theorem dX11_symbol_28 : decode cX11_symbol 28 = .ok (.new 127, 3) := by decide +kernel
theorem dX11_symbol_31 : decode cX11_symbol 31 = .ok (.dup, 1) := by decide +kernel
theorem dX11_symbol_32 : decode cX11_symbol 32 = .ok (.ldc 198, 2) := by decide +kernel
theorem dX11_symbol_34 : decode cX11_symbol 34 = .ok (.invokespecial 131, 3) := by decide +kernel
theorem dX11_symbol_37 : decode cX11_symbol 37 = .ok (.athrow, 1) := by decide +kernel
theorem dX11_symbol_38 : decode cX11_symbol 38 = .ok (.aload_n 0, 1) := by decide +kernel
theorem dX11_symbol_39 : decode cX11_symbol 39 = .ok (.getfield 61, 3) := by decide +kernel
theorem dX11_symbol_42 : decode cX11_symbol 42 = .ok (.getfield 200, 3) := by decide +kernel
theorem dX11_symbol_45 : decode cX11_symbol 45 = .ok (.iload_n 1, 1) := by decide +kernel
theorem dX11_symbol_46 : decode cX11_symbol 46 = .ok (.iaload, 1) := by decide +kernel
theorem dX11_symbol_47 : decode cX11_symbol 47 = .ok (.ireturn, 1) := by decide +kernel
theorem dX11_length_0 : decode cX11_length 0 = .ok (.aload_n 0, 1) := by decide +kernel
theorem dX11_length_1 : decode cX11_length 1 = .ok (.getfield 10, 3) := by decide +kernel
theorem dX11_length_4 : decode cX11_length 4 = .ok (.getfield 69, 3) := by decide +kernel
theorem dX11_length_7 : decode cX11_length 7 = .ok (.ireturn, 1) := by decide +kernel
theorem dX11_within_0 : decode cX11_within 0 = .ok (.iload_n 0, 1) := by decide +kernel
theorem dX11_within_1 : decode cX11_within 1 = .ok (.iload_n 1, 1) := by decide +kernel
theorem dX11_within_2 : decode cX11_within 2 = .ok (.if_icmp .lt 12, 3) := by decide +kernel
theorem dX11_within_5 : decode cX11_within 5 = .ok (.iload_n 0, 1) := by decide +kernel
theorem dX11_within_6 : decode cX11_within 6 = .ok (.iload_n 2, 1) := by decide +kernel
theorem dX11_within_7 : decode cX11_within 7 = .ok (.if_icmp .gt 7, 3) := by decide +kernel
theorem dX11_within_10 : decode cX11_within 10 = .ok (.iconst 1, 1) := by decide +kernel
theorem dX11_within_11 : decode cX11_within 11 = .ok (.goto 4, 3) := by decide +kernel
theorem dX11_within_14 : decode cX11_within 14 = .ok (.iconst 0, 1) := by decide +kernel
theorem dX11_within_15 : decode cX11_within 15 = .ok (.ireturn, 1) := by decide +kernel
theorem dX11_isSign_0 : decode cX11_isSign 0 = .ok (.iload_n 0, 1) := by decide +kernel
theorem dX11_isSign_1 : decode cX11_isSign 1 = .ok (.iconst 0, 1) := by decide +kernel
theorem dX11_isSign_2 : decode cX11_isSign 2 = .ok (.bipush 15, 2) := by decide +kernel
theorem dX11_isSign_4 : decode cX11_isSign 4 = .ok (.invokestatic 80, 3) := by decide +kernel
theorem dX11_isSign_7 : decode cX11_isSign 7 = .ok (.ireturn, 1) := by decide +kernel
theorem dX11_isSide_0 : decode cX11_isSide 0 = .ok (.iload_n 0, 1) := by decide +kernel
theorem dX11_isSide_1 : decode cX11_isSide 1 = .ok (.iconst 0, 1) := by decide +kernel
theorem dX11_isSide_2 : decode cX11_isSide 2 = .ok (.iconst 1, 1) := by decide +kernel
theorem dX11_isSide_3 : decode cX11_isSide 3 = .ok (.invokestatic 80, 3) := by decide +kernel
theorem dX11_isSide_6 : decode cX11_isSide 6 = .ok (.ireturn, 1) := by decide +kernel
theorem dX11_isCostKind_0 : decode cX11_isCostKind 0 = .ok (.iload_n 0, 1) := by decide +kernel
theorem dX11_isCostKind_1 : decode cX11_isCostKind 1 = .ok (.iconst 0, 1) := by decide +kernel
theorem dX11_isCostKind_2 : decode cX11_isCostKind 2 = .ok (.iconst 2, 1) := by decide +kernel
theorem dX11_isCostKind_3 : decode cX11_isCostKind 3 = .ok (.invokestatic 80, 3) := by decide +kernel
theorem dX11_isCostKind_6 : decode cX11_isCostKind 6 = .ok (.ireturn, 1) := by decide +kernel
theorem dX11_costOfKind_0 : decode cX11_costOfKind 0 = .ok (.iload_n 1, 1) := by decide +kernel
theorem dX11_costOfKind_1 : decode cX11_costOfKind 1 = .ok (.ifCond .ne 28, 3) := by decide +kernel
theorem dX11_costOfKind_4 : decode cX11_costOfKind 4 = .ok (.aload_n 0, 1) := by decide +kernel
theorem dX11_costOfKind_5 : decode cX11_costOfKind 5 = .ok (.getfield 26, 3) := by decide +kernel
theorem dX11_costOfKind_8 : decode cX11_costOfKind 8 = .ok (.aload_n 0, 1) := by decide +kernel
theorem dX11_costOfKind_9 : decode cX11_costOfKind 9 = .ok (.getfield 10, 3) := by decide +kernel
theorem dX11_costOfKind_12 : decode cX11_costOfKind 12 = .ok (.invokevirtual 87, 3) := by decide +kernel
theorem dX11_costOfKind_15 : decode cX11_costOfKind 15 = .ok (.aload_n 0, 1) := by decide +kernel
theorem dX11_costOfKind_16 : decode cX11_costOfKind 16 = .ok (.getfield 33, 3) := by decide +kernel
theorem dX11_costOfKind_19 : decode cX11_costOfKind 19 = .ok (.aload_n 0, 1) := by decide +kernel
theorem dX11_costOfKind_20 : decode cX11_costOfKind 20 = .ok (.getfield 26, 3) := by decide +kernel
theorem dX11_costOfKind_23 : decode cX11_costOfKind 23 = .ok (.iload_n 2, 1) := by decide +kernel
theorem dX11_costOfKind_24 : decode cX11_costOfKind 24 = .ok (.iload_n 3, 1) := by decide +kernel
theorem dX11_costOfKind_25 : decode cX11_costOfKind 25 = .ok (.invokevirtual 203, 3) := by decide +kernel
theorem dX11_costOfKind_28 : decode cX11_costOfKind 28 = .ok (.lreturn, 1) := by decide +kernel
theorem dX11_costOfKind_29 : decode cX11_costOfKind 29 = .ok (.iload_n 1, 1) := by decide +kernel
theorem dX11_costOfKind_30 : decode cX11_costOfKind 30 = .ok (.iconst 1, 1) := by decide +kernel
theorem dX11_costOfKind_31 : decode cX11_costOfKind 31 = .ok (.if_icmp .ne 23, 3) := by decide +kernel
theorem dX11_costOfKind_34 : decode cX11_costOfKind 34 = .ok (.aload_n 0, 1) := by decide +kernel
theorem dX11_costOfKind_35 : decode cX11_costOfKind 35 = .ok (.getfield 33, 3) := by decide +kernel
theorem dX11_costOfKind_38 : decode cX11_costOfKind 38 = .ok (.aload_n 0, 1) := by decide +kernel
theorem dX11_costOfKind_39 : decode cX11_costOfKind 39 = .ok (.getfield 10, 3) := by decide +kernel
theorem dX11_costOfKind_42 : decode cX11_costOfKind 42 = .ok (.aload_n 0, 1) := by decide +kernel
theorem dX11_costOfKind_43 : decode cX11_costOfKind 43 = .ok (.getfield 19, 3) := by decide +kernel
theorem dX11_costOfKind_46 : decode cX11_costOfKind 46 = .ok (.iload_n 2, 1) := by decide +kernel
theorem dX11_costOfKind_47 : decode cX11_costOfKind 47 = .ok (.iload_n 3, 1) := by decide +kernel
theorem dX11_costOfKind_48 : decode cX11_costOfKind 48 = .ok (.invokevirtual 207, 3) := by decide +kernel
theorem dX11_costOfKind_51 : decode cX11_costOfKind 51 = .ok (.goto 16, 3) := by decide +kernel
theorem dX11_costOfKind_54 : decode cX11_costOfKind 54 = .ok (.aload_n 0, 1) := by decide +kernel
theorem dX11_costOfKind_55 : decode cX11_costOfKind 55 = .ok (.getfield 33, 3) := by decide +kernel
theorem dX11_costOfKind_58 : decode cX11_costOfKind 58 = .ok (.aload_n 0, 1) := by decide +kernel
theorem dX11_costOfKind_59 : decode cX11_costOfKind 59 = .ok (.getfield 10, 3) := by decide +kernel
theorem dX11_costOfKind_62 : decode cX11_costOfKind 62 = .ok (.iload_n 2, 1) := by decide +kernel
theorem dX11_costOfKind_63 : decode cX11_costOfKind 63 = .ok (.iload_n 3, 1) := by decide +kernel
theorem dX11_costOfKind_64 : decode cX11_costOfKind 64 = .ok (.invokevirtual 211, 3) := by decide +kernel
theorem dX11_costOfKind_67 : decode cX11_costOfKind 67 = .ok (.lreturn, 1) := by decide +kernel
theorem dX11_widthOfKind_0 : decode cX11_widthOfKind 0 = .ok (.iload_n 1, 1) := by decide +kernel
theorem dX11_widthOfKind_1 : decode cX11_widthOfKind 1 = .ok (.ifCond .ne 15, 3) := by decide +kernel
theorem dX11_widthOfKind_4 : decode cX11_widthOfKind 4 = .ok (.aload_n 0, 1) := by decide +kernel
theorem dX11_widthOfKind_5 : decode cX11_widthOfKind 5 = .ok (.getfield 40, 3) := by decide +kernel
theorem dX11_widthOfKind_8 : decode cX11_widthOfKind 8 = .ok (.getfield 215, 3) := by decide +kernel
theorem dX11_widthOfKind_11 : decode cX11_widthOfKind 11 = .ok (.iload_n 2, 1) := by decide +kernel
theorem dX11_widthOfKind_12 : decode cX11_widthOfKind 12 = .ok (.iaload, 1) := by decide +kernel
theorem dX11_widthOfKind_13 : decode cX11_widthOfKind 13 = .ok (.goto 22, 3) := by decide +kernel
theorem dX11_widthOfKind_16 : decode cX11_widthOfKind 16 = .ok (.aload_n 0, 1) := by decide +kernel
theorem dX11_widthOfKind_17 : decode cX11_widthOfKind 17 = .ok (.getfield 10, 3) := by decide +kernel
theorem dX11_widthOfKind_20 : decode cX11_widthOfKind 20 = .ok (.getfield 166, 3) := by decide +kernel
theorem dX11_widthOfKind_23 : decode cX11_widthOfKind 23 = .ok (.iload_n 2, 1) := by decide +kernel
theorem dX11_widthOfKind_24 : decode cX11_widthOfKind 24 = .ok (.iaload, 1) := by decide +kernel
theorem dX11_widthOfKind_25 : decode cX11_widthOfKind 25 = .ok (.aload_n 0, 1) := by decide +kernel
theorem dX11_widthOfKind_26 : decode cX11_widthOfKind 26 = .ok (.getfield 10, 3) := by decide +kernel
theorem dX11_widthOfKind_29 : decode cX11_widthOfKind 29 = .ok (.getfield 69, 3) := by decide +kernel
theorem dX11_widthOfKind_32 : decode cX11_widthOfKind 32 = .ok (.invokestatic 218, 3) := by decide +kernel
theorem dX11_widthOfKind_35 : decode cX11_widthOfKind 35 = .ok (.ireturn, 1) := by decide +kernel
theorem dX11_cutPieces_0 : decode cX11_cutPieces 0 = .ok (.iload_n 1, 1) := by decide +kernel
theorem dX11_cutPieces_1 : decode cX11_cutPieces 1 = .ok (.ifCond .ne 10, 3) := by decide +kernel
theorem dX11_cutPieces_4 : decode cX11_cutPieces 4 = .ok (.aload_n 0, 1) := by decide +kernel
theorem dX11_cutPieces_5 : decode cX11_cutPieces 5 = .ok (.getfield 47, 3) := by decide +kernel
theorem dX11_cutPieces_8 : decode cX11_cutPieces 8 = .ok (.goto 7, 3) := by decide +kernel
theorem dX11_cutPieces_11 : decode cX11_cutPieces 11 = .ok (.aload_n 0, 1) := by decide +kernel
theorem dX11_cutPieces_12 : decode cX11_cutPieces 12 = .ok (.getfield 54, 3) := by decide +kernel
theorem dX11_cutPieces_15 : decode cX11_cutPieces 15 = .ok (.astore_n 2, 1) := by decide +kernel
theorem dX11_cutPieces_16 : decode cX11_cutPieces 16 = .ok (.aload_n 2, 1) := by decide +kernel
theorem dX11_cutPieces_17 : decode cX11_cutPieces 17 = .ok (.aload_n 0, 1) := by decide +kernel
theorem dX11_cutPieces_18 : decode cX11_cutPieces 18 = .ok (.getfield 10, 3) := by decide +kernel
theorem dX11_cutPieces_21 : decode cX11_cutPieces 21 = .ok (.invokevirtual 221, 3) := by decide +kernel
theorem dX11_cutPieces_24 : decode cX11_cutPieces 24 = .ok (.aload_n 2, 1) := by decide +kernel
theorem dX11_cutPieces_25 : decode cX11_cutPieces 25 = .ok (.areturn, 1) := by decide +kernel
theorem dJx00060_init_a7421_0 : decode cJx00060_init_a7421 0 = .ok (.aload_n 0, 1) := by decide +kernel
theorem dJx00060_init_a7421_1 : decode cJx00060_init_a7421 1 = .ok (.aload_n 1, 1) := by decide +kernel
theorem dJx00060_init_a7421_2 : decode cJx00060_init_a7421 2 = .ok (.invokespecial 7, 3) := by decide +kernel
theorem dJx00060_init_a7421_5 : decode cJx00060_init_a7421 5 = .ok (.return_, 1) := by decide +kernel
theorem dJ9_max_7cf53_0 : decode cJ9_max_7cf53 0 = .ok (.iload_n 0, 1) := by decide +kernel
theorem dJ9_max_7cf53_1 : decode cJ9_max_7cf53 1 = .ok (.iload_n 1, 1) := by decide +kernel
theorem dJ9_max_7cf53_2 : decode cJ9_max_7cf53 2 = .ok (.if_icmp .lt 7, 3) := by decide +kernel
theorem dJ9_max_7cf53_5 : decode cJ9_max_7cf53 5 = .ok (.iload_n 0, 1) := by decide +kernel
theorem dJ9_max_7cf53_6 : decode cJ9_max_7cf53 6 = .ok (.goto 4, 3) := by decide +kernel
theorem dJ9_max_7cf53_9 : decode cJ9_max_7cf53 9 = .ok (.iload_n 1, 1) := by decide +kernel
theorem dJ9_max_7cf53_10 : decode cJ9_max_7cf53 10 = .ok (.ireturn, 1) := by decide +kernel
theorem dJ9_max_f86c9_0 : decode cJ9_max_f86c9 0 = .ok (.lload_n 0, 1) := by decide +kernel
theorem dJ9_max_f86c9_1 : decode cJ9_max_f86c9 1 = .ok (.lload_n 2, 1) := by decide +kernel
theorem dJ9_max_f86c9_2 : decode cJ9_max_f86c9 2 = .ok (.lcmp, 1) := by decide +kernel
theorem dJ9_max_f86c9_3 : decode cJ9_max_f86c9 3 = .ok (.ifCond .lt 7, 3) := by decide +kernel
theorem dJ9_max_f86c9_6 : decode cJ9_max_f86c9 6 = .ok (.lload_n 0, 1) := by decide +kernel
theorem dJ9_max_f86c9_7 : decode cJ9_max_f86c9 7 = .ok (.goto 4, 3) := by decide +kernel
theorem dJ9_max_f86c9_10 : decode cJ9_max_f86c9 10 = .ok (.lload_n 2, 1) := by decide +kernel
theorem dJ9_max_f86c9_11 : decode cJ9_max_f86c9 11 = .ok (.lreturn, 1) := by decide +kernel
theorem dJ7_fill_53178_0 : decode cJ7_fill_53178 0 = .ok (.iconst 0, 1) := by decide +kernel
theorem dJ7_fill_53178_1 : decode cJ7_fill_53178 1 = .ok (.istore_n 2, 1) := by decide +kernel
theorem dJ7_fill_53178_2 : decode cJ7_fill_53178 2 = .ok (.aload_n 0, 1) := by decide +kernel
theorem dJ7_fill_53178_3 : decode cJ7_fill_53178 3 = .ok (.arraylength, 1) := by decide +kernel
theorem dJ7_fill_53178_4 : decode cJ7_fill_53178 4 = .ok (.istore_n 3, 1) := by decide +kernel
theorem dJ7_fill_53178_5 : decode cJ7_fill_53178 5 = .ok (.iload_n 2, 1) := by decide +kernel
theorem dJ7_fill_53178_6 : decode cJ7_fill_53178 6 = .ok (.iload_n 3, 1) := by decide +kernel
theorem dJ7_fill_53178_7 : decode cJ7_fill_53178 7 = .ok (.if_icmp .ge 13, 3) := by decide +kernel
theorem dJ7_fill_53178_10 : decode cJ7_fill_53178 10 = .ok (.aload_n 0, 1) := by decide +kernel
theorem dJ7_fill_53178_11 : decode cJ7_fill_53178 11 = .ok (.iload_n 2, 1) := by decide +kernel
theorem dJ7_fill_53178_12 : decode cJ7_fill_53178 12 = .ok (.iload_n 1, 1) := by decide +kernel
theorem dJ7_fill_53178_13 : decode cJ7_fill_53178 13 = .ok (.iastore, 1) := by decide +kernel
theorem dJ7_fill_53178_14 : decode cJ7_fill_53178 14 = .ok (.iinc 2 1, 3) := by decide +kernel
theorem dJ7_fill_53178_17 : decode cJ7_fill_53178 17 = .ok (.goto (-12), 3) := by decide +kernel
theorem dJ7_fill_53178_20 : decode cJ7_fill_53178 20 = .ok (.return_, 1) := by decide +kernel
end
section
theorem dX12_init_0 : decode cX12_init 0 = .ok (.aload_n 0, 1) := by decide +kernel
theorem dX12_init_1 : decode cX12_init 1 = .ok (.invokespecial 1, 3) := by decide +kernel
theorem dX12_init_4 : decode cX12_init 4 = .ok (.aload_n 0, 1) := by decide +kernel
theorem dX12_init_5 : decode cX12_init 5 = .ok (.sipush 400, 3) := by decide +kernel
theorem dX12_init_8 : decode cX12_init 8 = .ok (.newarray .int, 2) := by decide +kernel
theorem dX12_init_10 : decode cX12_init 10 = .ok (.putfield 7, 3) := by decide +kernel
theorem dX12_init_13 : decode cX12_init 13 = .ok (.aload_n 0, 1) := by decide +kernel
theorem dX12_init_14 : decode cX12_init 14 = .ok (.bipush 16, 2) := by decide +kernel
theorem dX12_init_16 : decode cX12_init 16 = .ok (.newarray .int, 2) := by decide +kernel
theorem dX12_init_18 : decode cX12_init 18 = .ok (.putfield 13, 3) := by decide +kernel
theorem dX12_init_21 : decode cX12_init 21 = .ok (.aload_n 0, 1) := by decide +kernel
theorem dX12_init_22 : decode cX12_init 22 = .ok (.sipush 400, 3) := by decide +kernel
theorem dX12_init_25 : decode cX12_init 25 = .ok (.newarray .int, 2) := by decide +kernel
theorem dX12_init_27 : decode cX12_init 27 = .ok (.putfield 16, 3) := by decide +kernel
theorem dX12_init_30 : decode cX12_init 30 = .ok (.aload_n 0, 1) := by decide +kernel
theorem dX12_init_31 : decode cX12_init 31 = .ok (.sipush 6400, 3) := by decide +kernel
theorem dX12_init_34 : decode cX12_init 34 = .ok (.newarray .int, 2) := by decide +kernel
theorem dX12_init_36 : decode cX12_init 36 = .ok (.putfield 19, 3) := by decide +kernel
theorem dX12_init_39 : decode cX12_init 39 = .ok (.aload_n 0, 1) := by decide +kernel
theorem dX12_init_40 : decode cX12_init 40 = .ok (.sipush 400, 3) := by decide +kernel
theorem dX12_init_43 : decode cX12_init 43 = .ok (.newarray .int, 2) := by decide +kernel
theorem dX12_init_45 : decode cX12_init 45 = .ok (.putfield 22, 3) := by decide +kernel
theorem dX12_init_48 : decode cX12_init 48 = .ok (.aload_n 0, 1) := by decide +kernel
theorem dX12_init_49 : decode cX12_init 49 = .ok (.bipush 16, 2) := by decide +kernel
theorem dX12_init_51 : decode cX12_init 51 = .ok (.newarray .int, 2) := by decide +kernel
theorem dX12_init_53 : decode cX12_init 53 = .ok (.putfield 25, 3) := by decide +kernel
theorem dX12_init_56 : decode cX12_init 56 = .ok (.aload_n 0, 1) := by decide +kernel
theorem dX12_init_57 : decode cX12_init 57 = .ok (.bipush 16, 2) := by decide +kernel
theorem dX12_init_59 : decode cX12_init 59 = .ok (.newarray .int, 2) := by decide +kernel
theorem dX12_init_61 : decode cX12_init 61 = .ok (.putfield 28, 3) := by decide +kernel
theorem dX12_init_64 : decode cX12_init 64 = .ok (.aload_n 0, 1) := by decide +kernel
theorem dX12_init_65 : decode cX12_init 65 = .ok (.bipush 16, 2) := by decide +kernel
theorem dX12_init_67 : decode cX12_init 67 = .ok (.newarray .int, 2) := by decide +kernel
theorem dX12_init_69 : decode cX12_init 69 = .ok (.putfield 31, 3) := by decide +kernel
theorem dX12_init_72 : decode cX12_init 72 = .ok (.aload_n 0, 1) := by decide +kernel
theorem dX12_init_73 : decode cX12_init 73 = .ok (.sipush 400, 3) := by decide +kernel
theorem dX12_init_76 : decode cX12_init 76 = .ok (.newarray .int, 2) := by decide +kernel
theorem dX12_init_78 : decode cX12_init 78 = .ok (.putfield 34, 3) := by decide +kernel
theorem dX12_init_81 : decode cX12_init 81 = .ok (.aload_n 0, 1) := by decide +kernel
theorem dX12_init_82 : decode cX12_init 82 = .ok (.sipush 400, 3) := by decide +kernel
theorem dX12_init_85 : decode cX12_init 85 = .ok (.newarray .int, 2) := by decide +kernel
theorem dX12_init_87 : decode cX12_init 87 = .ok (.putfield 37, 3) := by decide +kernel
theorem dX12_init_90 : decode cX12_init 90 = .ok (.aload_n 0, 1) := by decide +kernel
theorem dX12_init_91 : decode cX12_init 91 = .ok (.sipush 400, 3) := by decide +kernel
theorem dX12_init_94 : decode cX12_init 94 = .ok (.newarray .int, 2) := by decide +kernel
theorem dX12_init_96 : decode cX12_init 96 = .ok (.putfield 40, 3) := by decide +kernel
theorem dX12_init_99 : decode cX12_init 99 = .ok (.aload_n 0, 1) := by decide +kernel
theorem dX12_init_100 : decode cX12_init 100 = .ok (.sipush 400, 3) := by decide +kernel
theorem dX12_init_103 : decode cX12_init 103 = .ok (.newarray .int, 2) := by decide +kernel
theorem dX12_init_105 : decode cX12_init 105 = .ok (.putfield 43, 3) := by decide +kernel
theorem dX12_init_108 : decode cX12_init 108 = .ok (.aload_n 0, 1) := by decide +kernel
theorem dX12_init_109 : decode cX12_init 109 = .ok (.sipush 200, 3) := by decide +kernel
theorem dX12_init_112 : decode cX12_init 112 = .ok (.newarray .int, 2) := by decide +kernel
theorem dX12_init_114 : decode cX12_init 114 = .ok (.putfield 46, 3) := by decide +kernel
theorem dX12_init_117 : decode cX12_init 117 = .ok (.aload_n 0, 1) := by decide +kernel
theorem dX12_init_118 : decode cX12_init 118 = .ok (.sipush 200, 3) := by decide +kernel
theorem dX12_init_121 : decode cX12_init 121 = .ok (.newarray .int, 2) := by decide +kernel
theorem dX12_init_123 : decode cX12_init 123 = .ok (.putfield 49, 3) := by decide +kernel
theorem dX12_init_126 : decode cX12_init 126 = .ok (.aload_n 0, 1) := by decide +kernel
theorem dX12_init_127 : decode cX12_init 127 = .ok (.iconst (-1), 1) := by decide +kernel
theorem dX12_init_128 : decode cX12_init 128 = .ok (.putfield 52, 3) := by decide +kernel
theorem dX12_init_131 : decode cX12_init 131 = .ok (.aload_n 0, 1) := by decide +kernel
theorem dX12_init_132 : decode cX12_init 132 = .ok (.sipush 400, 3) := by decide +kernel
theorem dX12_init_135 : decode cX12_init 135 = .ok (.newarray .int, 2) := by decide +kernel
theorem dX12_init_137 : decode cX12_init 137 = .ok (.putfield 56, 3) := by decide +kernel
theorem dX12_init_140 : decode cX12_init 140 = .ok (.return_, 1) := by decide +kernel
theorem dX12_thrown_0 : decode cX12_thrown 0 = .ok (.aload_n 0, 1) := by decide +kernel
theorem dX12_thrown_1 : decode cX12_thrown 1 = .ok (.getfield 59, 3) := by decide +kernel
theorem dX12_thrown_4 : decode cX12_thrown 4 = .ok (.ireturn, 1) := by decide +kernel
theorem dX12_in_0 : decode cX12_in 0 = .ok (.lload_n 0, 1) := by decide +kernel
theorem dX12_in_1 : decode cX12_in 1 = .ok (.lload_n 2, 1) := by decide +kernel
theorem dX12_in_2 : decode cX12_in 2 = .ok (.lcmp, 1) := by decide +kernel
theorem dX12_in_3 : decode cX12_in 3 = .ok (.ifCond .lt 14, 3) := by decide +kernel
theorem dX12_in_6 : decode cX12_in 6 = .ok (.lload_n 0, 1) := by decide +kernel
theorem dX12_in_7 : decode cX12_in 7 = .ok (.lload 4, 2) := by decide +kernel
theorem dX12_in_9 : decode cX12_in 9 = .ok (.lcmp, 1) := by decide +kernel
theorem dX12_in_10 : decode cX12_in 10 = .ok (.ifCond .gt 7, 3) := by decide +kernel
theorem dX12_in_13 : decode cX12_in 13 = .ok (.iconst 1, 1) := by decide +kernel
theorem dX12_in_14 : decode cX12_in 14 = .ok (.goto 4, 3) := by decide +kernel
theorem dX12_in_17 : decode cX12_in 17 = .ok (.iconst 0, 1) := by decide +kernel
theorem dX12_in_18 : decode cX12_in 18 = .ok (.ireturn, 1) := by decide +kernel
theorem dX12_isSign_0 : decode cX12_isSign 0 = .ok (.iload_n 0, 1) := by decide +kernel
theorem dX12_isSign_1 : decode cX12_isSign 1 = .ok (.i2l, 1) := by decide +kernel
theorem dX12_isSign_2 : decode cX12_isSign 2 = .ok (.lconst 0, 1) := by decide +kernel
theorem dX12_isSign_3 : decode cX12_isSign 3 = .ok (.ldc2_w 62, 3) := by decide +kernel
theorem dX12_isSign_6 : decode cX12_isSign 6 = .ok (.invokestatic 64, 3) := by decide +kernel
theorem dX12_isSign_9 : decode cX12_isSign 9 = .ok (.ireturn, 1) := by decide +kernel
theorem dX12_isKind_0 : decode cX12_isKind 0 = .ok (.iload_n 0, 1) := by decide +kernel
theorem dX12_isKind_1 : decode cX12_isKind 1 = .ok (.i2l, 1) := by decide +kernel
theorem dX12_isKind_2 : decode cX12_isKind 2 = .ok (.lconst 0, 1) := by decide +kernel
theorem dX12_isKind_3 : decode cX12_isKind 3 = .ok (.lconst 1, 1) := by decide +kernel
theorem dX12_isKind_4 : decode cX12_isKind 4 = .ok (.invokestatic 64, 3) := by decide +kernel
theorem dX12_isKind_7 : decode cX12_isKind 7 = .ok (.ireturn, 1) := by decide +kernel
theorem dX12_sign_0 : decode cX12_sign 0 = .ok (.aload_n 0, 1) := by decide +kernel
theorem dX12_sign_1 : decode cX12_sign 1 = .ok (.iconst 0, 1) := by decide +kernel
theorem dX12_sign_2 : decode cX12_sign 2 = .ok (.putfield 59, 3) := by decide +kernel
theorem dX12_sign_5 : decode cX12_sign 5 = .ok (.iload_n 1, 1) := by decide +kernel
theorem dX12_sign_6 : decode cX12_sign 6 = .ok (.invokestatic 68, 3) := by decide +kernel
theorem dX12_sign_9 : decode cX12_sign 9 = .ok (.ifCond .ne 5, 3) := by decide +kernel
theorem dX12_sign_12 : decode cX12_sign 12 = .ok (.iconst (-1), 1) := by decide +kernel
theorem dX12_sign_13 : decode cX12_sign 13 = .ok (.ireturn, 1) := by decide +kernel
theorem dX12_sign_14 : decode cX12_sign 14 = .ok (.aload_n 0, 1) := by decide +kernel
theorem dX12_sign_15 : decode cX12_sign 15 = .ok (.getfield 72, 3) := by decide +kernel
theorem dX12_sign_18 : decode cX12_sign 18 = .ok (.sipush 400, 3) := by decide +kernel
theorem dX12_sign_21 : decode cX12_sign 21 = .ok (.if_icmp .ne 6, 3) := by decide +kernel
theorem dX12_sign_24 : decode cX12_sign 24 = .ok (.bipush (-3), 2) := by decide +kernel
theorem dX12_sign_26 : decode cX12_sign 26 = .ok (.ireturn, 1) := by decide +kernel
theorem dX12_sign_27 : decode cX12_sign 27 = .ok (.aload_n 0, 1) := by decide +kernel
theorem dX12_sign_28 : decode cX12_sign 28 = .ok (.getfield 7, 3) := by decide +kernel
theorem dX12_sign_31 : decode cX12_sign 31 = .ok (.aload_n 0, 1) := by decide +kernel
theorem dX12_sign_32 : decode cX12_sign 32 = .ok (.getfield 72, 3) := by decide +kernel
theorem dX12_sign_35 : decode cX12_sign 35 = .ok (.iload_n 1, 1) := by decide +kernel
theorem dX12_sign_36 : decode cX12_sign 36 = .ok (.iastore, 1) := by decide +kernel
theorem dX12_sign_37 : decode cX12_sign 37 = .ok (.aload_n 0, 1) := by decide +kernel
theorem dX12_sign_38 : decode cX12_sign 38 = .ok (.dup, 1) := by decide +kernel
theorem dX12_sign_39 : decode cX12_sign 39 = .ok (.getfield 72, 3) := by decide +kernel
theorem dX12_sign_42 : decode cX12_sign 42 = .ok (.iconst 1, 1) := by decide +kernel
theorem dX12_sign_43 : decode cX12_sign 43 = .ok (.iadd, 1) := by decide +kernel
theorem dX12_sign_44 : decode cX12_sign 44 = .ok (.putfield 72, 3) := by decide +kernel
theorem dX12_sign_47 : decode cX12_sign 47 = .ok (.aload_n 0, 1) := by decide +kernel
theorem dX12_sign_48 : decode cX12_sign 48 = .ok (.getfield 72, 3) := by decide +kernel
theorem dX12_sign_51 : decode cX12_sign 51 = .ok (.ireturn, 1) := by decide +kernel
theorem dX12_wipe_0 : decode cX12_wipe 0 = .ok (.aload_n 0, 1) := by decide +kernel
theorem dX12_wipe_1 : decode cX12_wipe 1 = .ok (.iconst 0, 1) := by decide +kernel
theorem dX12_wipe_2 : decode cX12_wipe 2 = .ok (.putfield 59, 3) := by decide +kernel
theorem dX12_wipe_5 : decode cX12_wipe 5 = .ok (.aload_n 0, 1) := by decide +kernel
theorem dX12_wipe_6 : decode cX12_wipe 6 = .ok (.getfield 72, 3) := by decide +kernel
theorem dX12_wipe_9 : decode cX12_wipe 9 = .ok (.istore_n 1, 1) := by decide +kernel
theorem dX12_wipe_10 : decode cX12_wipe 10 = .ok (.aload_n 0, 1) := by decide +kernel
theorem dX12_wipe_11 : decode cX12_wipe 11 = .ok (.iconst 0, 1) := by decide +kernel
theorem dX12_wipe_12 : decode cX12_wipe 12 = .ok (.putfield 72, 3) := by decide +kernel
theorem dX12_wipe_15 : decode cX12_wipe 15 = .ok (.iload_n 1, 1) := by decide +kernel
theorem dX12_wipe_16 : decode cX12_wipe 16 = .ok (.ireturn, 1) := by decide +kernel
theorem dX12_length_0 : decode cX12_length 0 = .ok (.aload_n 0, 1) := by decide +kernel
theorem dX12_length_1 : decode cX12_length 1 = .ok (.iconst 0, 1) := by decide +kernel
theorem dX12_length_2 : decode cX12_length 2 = .ok (.putfield 59, 3) := by decide +kernel
theorem dX12_length_5 : decode cX12_length 5 = .ok (.aload_n 0, 1) := by decide +kernel
theorem dX12_length_6 : decode cX12_length 6 = .ok (.getfield 72, 3) := by decide +kernel
theorem dX12_length_9 : decode cX12_length 9 = .ok (.ireturn, 1) := by decide +kernel
theorem dX12_isSameAhead_0 : decode cX12_isSameAhead 0 = .ok (.iconst 1, 1) := by decide +kernel
theorem dX12_isSameAhead_1 : decode cX12_isSameAhead 1 = .ok (.istore_n 3, 1) := by decide +kernel
theorem dX12_isSameAhead_2 : decode cX12_isSameAhead 2 = .ok (.iconst 1, 1) := by decide +kernel
theorem dX12_isSameAhead_3 : decode cX12_isSameAhead 3 = .ok (.istore 4, 2) := by decide +kernel
theorem dX12_isSameAhead_5 : decode cX12_isSameAhead 5 = .ok (.iload 4, 2) := by decide +kernel
theorem dX12_isSameAhead_7 : decode cX12_isSameAhead 7 = .ok (.aload_n 0, 1) := by decide +kernel
theorem dX12_isSameAhead_8 : decode cX12_isSameAhead 8 = .ok (.getfield 75, 3) := by decide +kernel
theorem dX12_isSameAhead_11 : decode cX12_isSameAhead 11 = .ok (.if_icmp .gt 40, 3) := by decide +kernel
theorem dX12_isSameAhead_14 : decode cX12_isSameAhead 14 = .ok (.iload_n 3, 1) := by decide +kernel
theorem dX12_isSameAhead_15 : decode cX12_isSameAhead 15 = .ok (.ifCond .eq 28, 3) := by decide +kernel
theorem dX12_isSameAhead_18 : decode cX12_isSameAhead 18 = .ok (.aload_n 0, 1) := by decide +kernel
theorem dX12_isSameAhead_19 : decode cX12_isSameAhead 19 = .ok (.getfield 7, 3) := by decide +kernel
theorem dX12_isSameAhead_22 : decode cX12_isSameAhead 22 = .ok (.iload_n 1, 1) := by decide +kernel
theorem dX12_isSameAhead_23 : decode cX12_isSameAhead 23 = .ok (.iload 4, 2) := by decide +kernel
theorem dX12_isSameAhead_25 : decode cX12_isSameAhead 25 = .ok (.isub, 1) := by decide +kernel
theorem dX12_isSameAhead_26 : decode cX12_isSameAhead 26 = .ok (.iaload, 1) := by decide +kernel
theorem dX12_isSameAhead_27 : decode cX12_isSameAhead 27 = .ok (.aload_n 0, 1) := by decide +kernel
theorem dX12_isSameAhead_28 : decode cX12_isSameAhead 28 = .ok (.getfield 7, 3) := by decide +kernel
theorem dX12_isSameAhead_31 : decode cX12_isSameAhead 31 = .ok (.iload_n 2, 1) := by decide +kernel
theorem dX12_isSameAhead_32 : decode cX12_isSameAhead 32 = .ok (.iload 4, 2) := by decide +kernel
theorem dX12_isSameAhead_34 : decode cX12_isSameAhead 34 = .ok (.isub, 1) := by decide +kernel
theorem dX12_isSameAhead_35 : decode cX12_isSameAhead 35 = .ok (.iaload, 1) := by decide +kernel
theorem dX12_isSameAhead_36 : decode cX12_isSameAhead 36 = .ok (.if_icmp .ne 7, 3) := by decide +kernel
theorem dX12_isSameAhead_39 : decode cX12_isSameAhead 39 = .ok (.iconst 1, 1) := by decide +kernel
theorem dX12_isSameAhead_40 : decode cX12_isSameAhead 40 = .ok (.goto 4, 3) := by decide +kernel
theorem dX12_isSameAhead_43 : decode cX12_isSameAhead 43 = .ok (.iconst 0, 1) := by decide +kernel
theorem dX12_isSameAhead_44 : decode cX12_isSameAhead 44 = .ok (.istore_n 3, 1) := by decide +kernel
theorem dX12_isSameAhead_45 : decode cX12_isSameAhead 45 = .ok (.iinc 4 1, 3) := by decide +kernel
theorem dX12_isSameAhead_48 : decode cX12_isSameAhead 48 = .ok (.goto (-43), 3) := by decide +kernel
theorem dX12_isSameAhead_51 : decode cX12_isSameAhead 51 = .ok (.iload_n 3, 1) := by decide +kernel
theorem dX12_isSameAhead_52 : decode cX12_isSameAhead 52 = .ok (.ireturn, 1) := by decide +kernel
theorem dX12_findContexts_0 : decode cX12_findContexts 0 = .ok (.aload_n 0, 1) := by decide +kernel
theorem dX12_findContexts_1 : decode cX12_findContexts 1 = .ok (.iconst 0, 1) := by decide +kernel
theorem dX12_findContexts_2 : decode cX12_findContexts 2 = .ok (.putfield 78, 3) := by decide +kernel
theorem dX12_findContexts_5 : decode cX12_findContexts 5 = .ok (.aload_n 0, 1) := by decide +kernel
theorem dX12_findContexts_6 : decode cX12_findContexts 6 = .ok (.getfield 75, 3) := by decide +kernel
theorem dX12_findContexts_9 : decode cX12_findContexts 9 = .ok (.istore_n 1, 1) := by decide +kernel
theorem dX12_findContexts_10 : decode cX12_findContexts 10 = .ok (.iload_n 1, 1) := by decide +kernel
theorem dX12_findContexts_11 : decode cX12_findContexts 11 = .ok (.aload_n 0, 1) := by decide +kernel
theorem dX12_findContexts_12 : decode cX12_findContexts 12 = .ok (.getfield 72, 3) := by decide +kernel
theorem dX12_findContexts_15 : decode cX12_findContexts 15 = .ok (.if_icmp .ge 127, 3) := by decide +kernel
theorem dX12_findContexts_18 : decode cX12_findContexts 18 = .ok (.iconst 0, 1) := by decide +kernel
theorem dX12_findContexts_19 : decode cX12_findContexts 19 = .ok (.istore_n 2, 1) := by decide +kernel
theorem dX12_findContexts_20 : decode cX12_findContexts 20 = .ok (.iload_n 2, 1) := by decide +kernel
theorem dX12_findContexts_21 : decode cX12_findContexts 21 = .ok (.aload_n 0, 1) := by decide +kernel
theorem dX12_findContexts_22 : decode cX12_findContexts 22 = .ok (.getfield 78, 3) := by decide +kernel
theorem dX12_findContexts_25 : decode cX12_findContexts 25 = .ok (.if_icmp .ge 23, 3) := by decide +kernel
theorem dX12_findContexts_28 : decode cX12_findContexts 28 = .ok (.aload_n 0, 1) := by decide +kernel
theorem dX12_findContexts_29 : decode cX12_findContexts 29 = .ok (.aload_n 0, 1) := by decide +kernel
theorem dX12_findContexts_30 : decode cX12_findContexts 30 = .ok (.getfield 16, 3) := by decide +kernel
theorem dX12_findContexts_33 : decode cX12_findContexts 33 = .ok (.iload_n 2, 1) := by decide +kernel
theorem dX12_findContexts_34 : decode cX12_findContexts 34 = .ok (.iaload, 1) := by decide +kernel
theorem dX12_findContexts_35 : decode cX12_findContexts 35 = .ok (.iload_n 1, 1) := by decide +kernel
theorem dX12_findContexts_36 : decode cX12_findContexts 36 = .ok (.invokevirtual 81, 3) := by decide +kernel
theorem dX12_findContexts_39 : decode cX12_findContexts 39 = .ok (.ifCond .ne 9, 3) := by decide +kernel
theorem dX12_findContexts_42 : decode cX12_findContexts 42 = .ok (.iinc 2 1, 3) := by decide +kernel
theorem dX12_findContexts_45 : decode cX12_findContexts 45 = .ok (.goto (-25), 3) := by decide +kernel
theorem dX12_findContexts_48 : decode cX12_findContexts 48 = .ok (.iload_n 2, 1) := by decide +kernel
theorem dX12_findContexts_49 : decode cX12_findContexts 49 = .ok (.aload_n 0, 1) := by decide +kernel
theorem dX12_findContexts_50 : decode cX12_findContexts 50 = .ok (.getfield 78, 3) := by decide +kernel
theorem dX12_findContexts_53 : decode cX12_findContexts 53 = .ok (.if_icmp .ne 53, 3) := by decide +kernel
theorem dX12_findContexts_56 : decode cX12_findContexts 56 = .ok (.aload_n 0, 1) := by decide +kernel
theorem dX12_findContexts_57 : decode cX12_findContexts 57 = .ok (.getfield 16, 3) := by decide +kernel
theorem dX12_findContexts_60 : decode cX12_findContexts 60 = .ok (.iload_n 2, 1) := by decide +kernel
theorem dX12_findContexts_61 : decode cX12_findContexts 61 = .ok (.iload_n 1, 1) := by decide +kernel
theorem dX12_findContexts_62 : decode cX12_findContexts 62 = .ok (.iastore, 1) := by decide +kernel
theorem dX12_findContexts_63 : decode cX12_findContexts 63 = .ok (.aload_n 0, 1) := by decide +kernel
theorem dX12_findContexts_64 : decode cX12_findContexts 64 = .ok (.getfield 22, 3) := by decide +kernel
theorem dX12_findContexts_67 : decode cX12_findContexts 67 = .ok (.iload_n 2, 1) := by decide +kernel
theorem dX12_findContexts_68 : decode cX12_findContexts 68 = .ok (.iconst 0, 1) := by decide +kernel
theorem dX12_findContexts_69 : decode cX12_findContexts 69 = .ok (.iastore, 1) := by decide +kernel
theorem dX12_findContexts_70 : decode cX12_findContexts 70 = .ok (.iconst 0, 1) := by decide +kernel
theorem dX12_findContexts_71 : decode cX12_findContexts 71 = .ok (.istore_n 3, 1) := by decide +kernel
theorem dX12_findContexts_72 : decode cX12_findContexts 72 = .ok (.iload_n 3, 1) := by decide +kernel
theorem dX12_findContexts_73 : decode cX12_findContexts 73 = .ok (.bipush 16, 2) := by decide +kernel
theorem dX12_findContexts_75 : decode cX12_findContexts 75 = .ok (.if_icmp .ge 21, 3) := by decide +kernel
theorem dX12_findContexts_78 : decode cX12_findContexts 78 = .ok (.aload_n 0, 1) := by decide +kernel
theorem dX12_findContexts_79 : decode cX12_findContexts 79 = .ok (.getfield 19, 3) := by decide +kernel
theorem dX12_findContexts_82 : decode cX12_findContexts 82 = .ok (.bipush 16, 2) := by decide +kernel
theorem dX12_findContexts_84 : decode cX12_findContexts 84 = .ok (.iload_n 2, 1) := by decide +kernel
theorem dX12_findContexts_85 : decode cX12_findContexts 85 = .ok (.imul, 1) := by decide +kernel
theorem dX12_findContexts_86 : decode cX12_findContexts 86 = .ok (.iload_n 3, 1) := by decide +kernel
theorem dX12_findContexts_87 : decode cX12_findContexts 87 = .ok (.iadd, 1) := by decide +kernel
theorem dX12_findContexts_88 : decode cX12_findContexts 88 = .ok (.iconst 0, 1) := by decide +kernel
theorem dX12_findContexts_89 : decode cX12_findContexts 89 = .ok (.iastore, 1) := by decide +kernel
theorem dX12_findContexts_90 : decode cX12_findContexts 90 = .ok (.iinc 3 1, 3) := by decide +kernel
theorem dX12_findContexts_93 : decode cX12_findContexts 93 = .ok (.goto (-21), 3) := by decide +kernel
theorem dX12_findContexts_96 : decode cX12_findContexts 96 = .ok (.aload_n 0, 1) := by decide +kernel
theorem dX12_findContexts_97 : decode cX12_findContexts 97 = .ok (.dup, 1) := by decide +kernel
theorem dX12_findContexts_98 : decode cX12_findContexts 98 = .ok (.getfield 78, 3) := by decide +kernel
theorem dX12_findContexts_101 : decode cX12_findContexts 101 = .ok (.iconst 1, 1) := by decide +kernel
theorem dX12_findContexts_102 : decode cX12_findContexts 102 = .ok (.iadd, 1) := by decide +kernel
theorem dX12_findContexts_103 : decode cX12_findContexts 103 = .ok (.putfield 78, 3) := by decide +kernel
theorem dX12_findContexts_106 : decode cX12_findContexts 106 = .ok (.aload_n 0, 1) := by decide +kernel
theorem dX12_findContexts_107 : decode cX12_findContexts 107 = .ok (.getfield 22, 3) := by decide +kernel
theorem dX12_findContexts_110 : decode cX12_findContexts 110 = .ok (.iload_n 2, 1) := by decide +kernel
theorem dX12_findContexts_111 : decode cX12_findContexts 111 = .ok (.dup2, 1) := by decide +kernel
theorem dX12_findContexts_112 : decode cX12_findContexts 112 = .ok (.iaload, 1) := by decide +kernel
theorem dX12_findContexts_113 : decode cX12_findContexts 113 = .ok (.iconst 1, 1) := by decide +kernel
theorem dX12_findContexts_114 : decode cX12_findContexts 114 = .ok (.iadd, 1) := by decide +kernel
theorem dX12_findContexts_115 : decode cX12_findContexts 115 = .ok (.iastore, 1) := by decide +kernel
theorem dX12_findContexts_116 : decode cX12_findContexts 116 = .ok (.aload_n 0, 1) := by decide +kernel
theorem dX12_findContexts_117 : decode cX12_findContexts 117 = .ok (.getfield 19, 3) := by decide +kernel
theorem dX12_findContexts_120 : decode cX12_findContexts 120 = .ok (.bipush 16, 2) := by decide +kernel
theorem dX12_findContexts_122 : decode cX12_findContexts 122 = .ok (.iload_n 2, 1) := by decide +kernel
theorem dX12_findContexts_123 : decode cX12_findContexts 123 = .ok (.imul, 1) := by decide +kernel
theorem dX12_findContexts_124 : decode cX12_findContexts 124 = .ok (.aload_n 0, 1) := by decide +kernel
theorem dX12_findContexts_125 : decode cX12_findContexts 125 = .ok (.getfield 7, 3) := by decide +kernel
theorem dX12_findContexts_128 : decode cX12_findContexts 128 = .ok (.iload_n 1, 1) := by decide +kernel
theorem dX12_findContexts_129 : decode cX12_findContexts 129 = .ok (.iaload, 1) := by decide +kernel
theorem dX12_findContexts_130 : decode cX12_findContexts 130 = .ok (.iadd, 1) := by decide +kernel
theorem dX12_findContexts_131 : decode cX12_findContexts 131 = .ok (.dup2, 1) := by decide +kernel
theorem dX12_findContexts_132 : decode cX12_findContexts 132 = .ok (.iaload, 1) := by decide +kernel
theorem dX12_findContexts_133 : decode cX12_findContexts 133 = .ok (.iconst 1, 1) := by decide +kernel
theorem dX12_findContexts_134 : decode cX12_findContexts 134 = .ok (.iadd, 1) := by decide +kernel
theorem dX12_findContexts_135 : decode cX12_findContexts 135 = .ok (.iastore, 1) := by decide +kernel
theorem dX12_findContexts_136 : decode cX12_findContexts 136 = .ok (.iinc 1 1, 3) := by decide +kernel
theorem dX12_findContexts_139 : decode cX12_findContexts 139 = .ok (.goto (-129), 3) := by decide +kernel
theorem dX12_findContexts_142 : decode cX12_findContexts 142 = .ok (.return_, 1) := by decide +kernel
theorem dX12_order_0 : decode cX12_order 0 = .ok (.aload_n 0, 1) := by decide +kernel
theorem dX12_order_1 : decode cX12_order 1 = .ok (.iconst 0, 1) := by decide +kernel
theorem dX12_order_2 : decode cX12_order 2 = .ok (.putfield 59, 3) := by decide +kernel
theorem dX12_order_5 : decode cX12_order 5 = .ok (.iload_n 1, 1) := by decide +kernel
theorem dX12_order_6 : decode cX12_order 6 = .ok (.i2l, 1) := by decide +kernel
theorem dX12_order_7 : decode cX12_order 7 = .ok (.lconst 0, 1) := by decide +kernel
theorem dX12_order_8 : decode cX12_order 8 = .ok (.ldc2_w 85, 3) := by decide +kernel
theorem dX12_order_11 : decode cX12_order 11 = .ok (.invokestatic 64, 3) := by decide +kernel
theorem dX12_order_14 : decode cX12_order 14 = .ok (.ifCond .ne 5, 3) := by decide +kernel
theorem dX12_order_17 : decode cX12_order 17 = .ok (.iconst (-1), 1) := by decide +kernel
theorem dX12_order_18 : decode cX12_order 18 = .ok (.ireturn, 1) := by decide +kernel
theorem dX12_order_19 : decode cX12_order 19 = .ok (.aload_n 0, 1) := by decide +kernel
theorem dX12_order_20 : decode cX12_order 20 = .ok (.iload_n 1, 1) := by decide +kernel
theorem dX12_order_21 : decode cX12_order 21 = .ok (.putfield 75, 3) := by decide +kernel
theorem dX12_order_24 : decode cX12_order 24 = .ok (.aload_n 0, 1) := by decide +kernel
theorem dX12_order_25 : decode cX12_order 25 = .ok (.invokevirtual 87, 3) := by decide +kernel
theorem dX12_order_28 : decode cX12_order 28 = .ok (.aload_n 0, 1) := by decide +kernel
theorem dX12_order_29 : decode cX12_order 29 = .ok (.getfield 78, 3) := by decide +kernel
theorem dX12_order_32 : decode cX12_order 32 = .ok (.ireturn, 1) := by decide +kernel
theorem dX12_context_0 : decode cX12_context 0 = .ok (.aload_n 0, 1) := by decide +kernel
theorem dX12_context_1 : decode cX12_context 1 = .ok (.iconst 0, 1) := by decide +kernel
theorem dX12_context_2 : decode cX12_context 2 = .ok (.putfield 59, 3) := by decide +kernel
theorem dX12_context_5 : decode cX12_context 5 = .ok (.aload_n 0, 1) := by decide +kernel
theorem dX12_context_6 : decode cX12_context 6 = .ok (.invokevirtual 87, 3) := by decide +kernel
theorem dX12_context_9 : decode cX12_context 9 = .ok (.iload_n 1, 1) := by decide +kernel
theorem dX12_context_10 : decode cX12_context 10 = .ok (.i2l, 1) := by decide +kernel
theorem dX12_context_11 : decode cX12_context 11 = .ok (.lconst 0, 1) := by decide +kernel
theorem dX12_context_12 : decode cX12_context 12 = .ok (.aload_n 0, 1) := by decide +kernel
theorem dX12_context_13 : decode cX12_context 13 = .ok (.getfield 78, 3) := by decide +kernel
theorem dX12_context_16 : decode cX12_context 16 = .ok (.iconst 1, 1) := by decide +kernel
theorem dX12_context_17 : decode cX12_context 17 = .ok (.isub, 1) := by decide +kernel
theorem dX12_context_18 : decode cX12_context 18 = .ok (.i2l, 1) := by decide +kernel
theorem dX12_context_19 : decode cX12_context 19 = .ok (.invokestatic 64, 3) := by decide +kernel
theorem dX12_context_22 : decode cX12_context 22 = .ok (.ifCond .eq 40, 3) := by decide +kernel
theorem dX12_context_25 : decode cX12_context 25 = .ok (.iload_n 2, 1) := by decide +kernel
theorem dX12_context_26 : decode cX12_context 26 = .ok (.i2l, 1) := by decide +kernel
theorem dX12_context_27 : decode cX12_context 27 = .ok (.lconst 0, 1) := by decide +kernel
theorem dX12_context_28 : decode cX12_context 28 = .ok (.aload_n 0, 1) := by decide +kernel
theorem dX12_context_29 : decode cX12_context 29 = .ok (.getfield 75, 3) := by decide +kernel
theorem dX12_context_32 : decode cX12_context 32 = .ok (.iconst 1, 1) := by decide +kernel
theorem dX12_context_33 : decode cX12_context 33 = .ok (.isub, 1) := by decide +kernel
theorem dX12_context_34 : decode cX12_context 34 = .ok (.i2l, 1) := by decide +kernel
theorem dX12_context_35 : decode cX12_context 35 = .ok (.invokestatic 64, 3) := by decide +kernel
theorem dX12_context_38 : decode cX12_context 38 = .ok (.ifCond .eq 24, 3) := by decide +kernel
theorem dX12_context_41 : decode cX12_context 41 = .ok (.aload_n 0, 1) := by decide +kernel
theorem dX12_context_42 : decode cX12_context 42 = .ok (.getfield 7, 3) := by decide +kernel
theorem dX12_context_45 : decode cX12_context 45 = .ok (.aload_n 0, 1) := by decide +kernel
theorem dX12_context_46 : decode cX12_context 46 = .ok (.getfield 16, 3) := by decide +kernel
theorem dX12_context_49 : decode cX12_context 49 = .ok (.iload_n 1, 1) := by decide +kernel
theorem dX12_context_50 : decode cX12_context 50 = .ok (.iaload, 1) := by decide +kernel
theorem dX12_context_51 : decode cX12_context 51 = .ok (.aload_n 0, 1) := by decide +kernel
theorem dX12_context_52 : decode cX12_context 52 = .ok (.getfield 75, 3) := by decide +kernel
theorem dX12_context_55 : decode cX12_context 55 = .ok (.isub, 1) := by decide +kernel
theorem dX12_context_56 : decode cX12_context 56 = .ok (.iload_n 2, 1) := by decide +kernel
theorem dX12_context_57 : decode cX12_context 57 = .ok (.iadd, 1) := by decide +kernel
theorem dX12_context_58 : decode cX12_context 58 = .ok (.iaload, 1) := by decide +kernel
theorem dX12_context_59 : decode cX12_context 59 = .ok (.goto 4, 3) := by decide +kernel
theorem dX12_context_62 : decode cX12_context 62 = .ok (.iconst (-1), 1) := by decide +kernel
theorem dX12_context_63 : decode cX12_context 63 = .ok (.ireturn, 1) := by decide +kernel
theorem dX12_count_0 : decode cX12_count 0 = .ok (.aload_n 0, 1) := by decide +kernel
theorem dX12_count_1 : decode cX12_count 1 = .ok (.iconst 0, 1) := by decide +kernel
theorem dX12_count_2 : decode cX12_count 2 = .ok (.putfield 59, 3) := by decide +kernel
theorem dX12_count_5 : decode cX12_count 5 = .ok (.aload_n 0, 1) := by decide +kernel
theorem dX12_count_6 : decode cX12_count 6 = .ok (.invokevirtual 87, 3) := by decide +kernel
theorem dX12_count_9 : decode cX12_count 9 = .ok (.iload_n 1, 1) := by decide +kernel
theorem dX12_count_10 : decode cX12_count 10 = .ok (.i2l, 1) := by decide +kernel
theorem dX12_count_11 : decode cX12_count 11 = .ok (.lconst 0, 1) := by decide +kernel
theorem dX12_count_12 : decode cX12_count 12 = .ok (.aload_n 0, 1) := by decide +kernel
theorem dX12_count_13 : decode cX12_count 13 = .ok (.getfield 78, 3) := by decide +kernel
theorem dX12_count_16 : decode cX12_count 16 = .ok (.iconst 1, 1) := by decide +kernel
theorem dX12_count_17 : decode cX12_count 17 = .ok (.isub, 1) := by decide +kernel
theorem dX12_count_18 : decode cX12_count 18 = .ok (.i2l, 1) := by decide +kernel
theorem dX12_count_19 : decode cX12_count 19 = .ok (.invokestatic 64, 3) := by decide +kernel
theorem dX12_count_22 : decode cX12_count 22 = .ok (.ifCond .eq 17, 3) := by decide +kernel
theorem dX12_count_25 : decode cX12_count 25 = .ok (.iload_n 2, 1) := by decide +kernel
theorem dX12_count_26 : decode cX12_count 26 = .ok (.i2l, 1) := by decide +kernel
theorem dX12_count_27 : decode cX12_count 27 = .ok (.ldc2_w 90, 3) := by decide +kernel
theorem dX12_count_30 : decode cX12_count 30 = .ok (.ldc2_w 62, 3) := by decide +kernel
theorem dX12_count_33 : decode cX12_count 33 = .ok (.invokestatic 64, 3) := by decide +kernel
theorem dX12_count_36 : decode cX12_count 36 = .ok (.ifCond .ne 5, 3) := by decide +kernel
theorem dX12_count_39 : decode cX12_count 39 = .ok (.iconst (-1), 1) := by decide +kernel
theorem dX12_count_40 : decode cX12_count 40 = .ok (.ireturn, 1) := by decide +kernel
theorem dX12_count_41 : decode cX12_count 41 = .ok (.iload_n 2, 1) := by decide +kernel
theorem dX12_count_42 : decode cX12_count 42 = .ok (.ifCond .ge 12, 3) := by decide +kernel
theorem dX12_count_45 : decode cX12_count 45 = .ok (.aload_n 0, 1) := by decide +kernel
theorem dX12_count_46 : decode cX12_count 46 = .ok (.getfield 22, 3) := by decide +kernel
theorem dX12_count_49 : decode cX12_count 49 = .ok (.iload_n 1, 1) := by decide +kernel
theorem dX12_count_50 : decode cX12_count 50 = .ok (.iaload, 1) := by decide +kernel
theorem dX12_count_51 : decode cX12_count 51 = .ok (.goto 14, 3) := by decide +kernel
theorem dX12_count_54 : decode cX12_count 54 = .ok (.aload_n 0, 1) := by decide +kernel
theorem dX12_count_55 : decode cX12_count 55 = .ok (.getfield 19, 3) := by decide +kernel
theorem dX12_count_58 : decode cX12_count 58 = .ok (.bipush 16, 2) := by decide +kernel
theorem dX12_count_60 : decode cX12_count 60 = .ok (.iload_n 1, 1) := by decide +kernel
theorem dX12_count_61 : decode cX12_count 61 = .ok (.imul, 1) := by decide +kernel
theorem dX12_count_62 : decode cX12_count 62 = .ok (.iload_n 2, 1) := by decide +kernel
theorem dX12_count_63 : decode cX12_count 63 = .ok (.iadd, 1) := by decide +kernel
theorem dX12_count_64 : decode cX12_count 64 = .ok (.iaload, 1) := by decide +kernel
theorem dX12_count_65 : decode cX12_count 65 = .ok (.ireturn, 1) := by decide +kernel
theorem dX12_powerOf_0 : decode cX12_powerOf 0 = .ok (.iconst 0, 1) := by decide +kernel
theorem dX12_powerOf_1 : decode cX12_powerOf 1 = .ok (.istore_n 1, 1) := by decide +kernel
theorem dX12_powerOf_2 : decode cX12_powerOf 2 = .ok (.iload_n 0, 1) := by decide +kernel
theorem dX12_powerOf_3 : decode cX12_powerOf 3 = .ok (.iload_n 1, 1) := by decide +kernel
theorem dX12_powerOf_4 : decode cX12_powerOf 4 = .ok (.ishr, 1) := by decide +kernel
theorem dX12_powerOf_5 : decode cX12_powerOf 5 = .ok (.iconst 1, 1) := by decide +kernel
theorem dX12_powerOf_6 : decode cX12_powerOf 6 = .ok (.if_icmp .le 9, 3) := by decide +kernel
theorem dX12_powerOf_9 : decode cX12_powerOf 9 = .ok (.iinc 1 1, 3) := by decide +kernel
theorem dX12_powerOf_12 : decode cX12_powerOf 12 = .ok (.goto (-10), 3) := by decide +kernel
theorem dX12_powerOf_15 : decode cX12_powerOf 15 = .ok (.iload_n 1, 1) := by decide +kernel
theorem dX12_powerOf_16 : decode cX12_powerOf 16 = .ok (.ireturn, 1) := by decide +kernel
theorem dX12_lowLog_0 : decode cX12_lowLog 0 = .ok (.iload_n 0, 1) := by decide +kernel
theorem dX12_lowLog_1 : decode cX12_lowLog 1 = .ok (.invokestatic 92, 3) := by decide +kernel
theorem dX12_lowLog_4 : decode cX12_lowLog 4 = .ok (.istore_n 2, 1) := by decide +kernel
theorem dX12_lowLog_5 : decode cX12_lowLog 5 = .ok (.iload_n 0, 1) := by decide +kernel
theorem dX12_lowLog_6 : decode cX12_lowLog 6 = .ok (.i2l, 1) := by decide +kernel
theorem dX12_lowLog_7 : decode cX12_lowLog 7 = .ok (.bipush 30, 2) := by decide +kernel
theorem dX12_lowLog_9 : decode cX12_lowLog 9 = .ok (.iload_n 2, 1) := by decide +kernel
theorem dX12_lowLog_10 : decode cX12_lowLog 10 = .ok (.isub, 1) := by decide +kernel
theorem dX12_lowLog_11 : decode cX12_lowLog 11 = .ok (.lshl, 1) := by decide +kernel
theorem dX12_lowLog_12 : decode cX12_lowLog 12 = .ok (.lstore_n 3, 1) := by decide +kernel
theorem dX12_lowLog_13 : decode cX12_lowLog 13 = .ok (.lconst 0, 1) := by decide +kernel
theorem dX12_lowLog_14 : decode cX12_lowLog 14 = .ok (.lstore 5, 2) := by decide +kernel
theorem dX12_lowLog_16 : decode cX12_lowLog 16 = .ok (.iconst 0, 1) := by decide +kernel
theorem dX12_lowLog_17 : decode cX12_lowLog 17 = .ok (.istore 7, 2) := by decide +kernel
theorem dX12_lowLog_19 : decode cX12_lowLog 19 = .ok (.iload 7, 2) := by decide +kernel
theorem dX12_lowLog_21 : decode cX12_lowLog 21 = .ok (.iload_n 1, 1) := by decide +kernel
theorem dX12_lowLog_22 : decode cX12_lowLog 22 = .ok (.if_icmp .ge 45, 3) := by decide +kernel
theorem dX12_lowLog_25 : decode cX12_lowLog 25 = .ok (.lload_n 3, 1) := by decide +kernel
theorem dX12_lowLog_26 : decode cX12_lowLog 26 = .ok (.lload_n 3, 1) := by decide +kernel
theorem dX12_lowLog_27 : decode cX12_lowLog 27 = .ok (.lmul, 1) := by decide +kernel
theorem dX12_lowLog_28 : decode cX12_lowLog 28 = .ok (.ldc2_w 96, 3) := by decide +kernel
theorem dX12_lowLog_31 : decode cX12_lowLog 31 = .ok (.ldiv, 1) := by decide +kernel
theorem dX12_lowLog_32 : decode cX12_lowLog 32 = .ok (.lstore_n 3, 1) := by decide +kernel
theorem dX12_lowLog_33 : decode cX12_lowLog 33 = .ok (.ldc2_w 98, 3) := by decide +kernel
theorem dX12_lowLog_36 : decode cX12_lowLog 36 = .ok (.lload 5, 2) := by decide +kernel
theorem dX12_lowLog_38 : decode cX12_lowLog 38 = .ok (.lmul, 1) := by decide +kernel
theorem dX12_lowLog_39 : decode cX12_lowLog 39 = .ok (.lstore 5, 2) := by decide +kernel
theorem dX12_lowLog_41 : decode cX12_lowLog 41 = .ok (.lload_n 3, 1) := by decide +kernel
theorem dX12_lowLog_42 : decode cX12_lowLog 42 = .ok (.ldc2_w 100, 3) := by decide +kernel
theorem dX12_lowLog_45 : decode cX12_lowLog 45 = .ok (.lcmp, 1) := by decide +kernel
theorem dX12_lowLog_46 : decode cX12_lowLog 46 = .ok (.ifCond .lt 15, 3) := by decide +kernel
theorem dX12_lowLog_49 : decode cX12_lowLog 49 = .ok (.lload 5, 2) := by decide +kernel
theorem dX12_lowLog_51 : decode cX12_lowLog 51 = .ok (.lconst 1, 1) := by decide +kernel
theorem dX12_lowLog_52 : decode cX12_lowLog 52 = .ok (.ladd, 1) := by decide +kernel
theorem dX12_lowLog_53 : decode cX12_lowLog 53 = .ok (.lstore 5, 2) := by decide +kernel
theorem dX12_lowLog_55 : decode cX12_lowLog 55 = .ok (.lload_n 3, 1) := by decide +kernel
theorem dX12_lowLog_56 : decode cX12_lowLog 56 = .ok (.ldc2_w 98, 3) := by decide +kernel
theorem dX12_lowLog_59 : decode cX12_lowLog 59 = .ok (.ldiv, 1) := by decide +kernel
theorem dX12_lowLog_60 : decode cX12_lowLog 60 = .ok (.lstore_n 3, 1) := by decide +kernel
theorem dX12_lowLog_61 : decode cX12_lowLog 61 = .ok (.iinc 7 1, 3) := by decide +kernel
theorem dX12_lowLog_64 : decode cX12_lowLog 64 = .ok (.goto (-45), 3) := by decide +kernel
theorem dX12_lowLog_67 : decode cX12_lowLog 67 = .ok (.iload_n 2, 1) := by decide +kernel
theorem dX12_lowLog_68 : decode cX12_lowLog 68 = .ok (.i2l, 1) := by decide +kernel
theorem dX12_lowLog_69 : decode cX12_lowLog 69 = .ok (.iload_n 1, 1) := by decide +kernel
theorem dX12_lowLog_70 : decode cX12_lowLog 70 = .ok (.lshl, 1) := by decide +kernel
theorem dX12_lowLog_71 : decode cX12_lowLog 71 = .ok (.lload 5, 2) := by decide +kernel
theorem dX12_lowLog_73 : decode cX12_lowLog 73 = .ok (.ladd, 1) := by decide +kernel
theorem dX12_lowLog_74 : decode cX12_lowLog 74 = .ok (.lreturn, 1) := by decide +kernel
theorem dX12_highLog_0 : decode cX12_highLog 0 = .ok (.iload_n 0, 1) := by decide +kernel
theorem dX12_highLog_1 : decode cX12_highLog 1 = .ok (.invokestatic 92, 3) := by decide +kernel
theorem dX12_highLog_4 : decode cX12_highLog 4 = .ok (.istore_n 2, 1) := by decide +kernel
theorem dX12_highLog_5 : decode cX12_highLog 5 = .ok (.iload_n 0, 1) := by decide +kernel
theorem dX12_highLog_6 : decode cX12_highLog 6 = .ok (.iconst 1, 1) := by decide +kernel
theorem dX12_highLog_7 : decode cX12_highLog 7 = .ok (.iload_n 2, 1) := by decide +kernel
theorem dX12_highLog_8 : decode cX12_highLog 8 = .ok (.ishl, 1) := by decide +kernel
theorem dX12_highLog_9 : decode cX12_highLog 9 = .ok (.if_icmp .ne 8, 3) := by decide +kernel
theorem dX12_highLog_12 : decode cX12_highLog 12 = .ok (.iload_n 2, 1) := by decide +kernel
theorem dX12_highLog_13 : decode cX12_highLog 13 = .ok (.i2l, 1) := by decide +kernel
theorem dX12_highLog_14 : decode cX12_highLog 14 = .ok (.iload_n 1, 1) := by decide +kernel
theorem dX12_highLog_15 : decode cX12_highLog 15 = .ok (.lshl, 1) := by decide +kernel
theorem dX12_highLog_16 : decode cX12_highLog 16 = .ok (.lreturn, 1) := by decide +kernel
theorem dX12_highLog_17 : decode cX12_highLog 17 = .ok (.iload_n 0, 1) := by decide +kernel
theorem dX12_highLog_18 : decode cX12_highLog 18 = .ok (.i2l, 1) := by decide +kernel
theorem dX12_highLog_19 : decode cX12_highLog 19 = .ok (.bipush 30, 2) := by decide +kernel
theorem dX12_highLog_21 : decode cX12_highLog 21 = .ok (.iload_n 2, 1) := by decide +kernel
theorem dX12_highLog_22 : decode cX12_highLog 22 = .ok (.isub, 1) := by decide +kernel
theorem dX12_highLog_23 : decode cX12_highLog 23 = .ok (.lshl, 1) := by decide +kernel
theorem dX12_highLog_24 : decode cX12_highLog 24 = .ok (.lstore_n 3, 1) := by decide +kernel
theorem dX12_highLog_25 : decode cX12_highLog 25 = .ok (.lconst 0, 1) := by decide +kernel
theorem dX12_highLog_26 : decode cX12_highLog 26 = .ok (.lstore 5, 2) := by decide +kernel
theorem dX12_highLog_28 : decode cX12_highLog 28 = .ok (.iconst 0, 1) := by decide +kernel
theorem dX12_highLog_29 : decode cX12_highLog 29 = .ok (.istore 7, 2) := by decide +kernel
theorem dX12_highLog_31 : decode cX12_highLog 31 = .ok (.iload 7, 2) := by decide +kernel
theorem dX12_highLog_33 : decode cX12_highLog 33 = .ok (.iload_n 1, 1) := by decide +kernel
theorem dX12_highLog_34 : decode cX12_highLog 34 = .ok (.if_icmp .ge 72, 3) := by decide +kernel
theorem dX12_highLog_37 : decode cX12_highLog 37 = .ok (.lload_n 3, 1) := by decide +kernel
theorem dX12_highLog_38 : decode cX12_highLog 38 = .ok (.lload_n 3, 1) := by decide +kernel
theorem dX12_highLog_39 : decode cX12_highLog 39 = .ok (.lmul, 1) := by decide +kernel
theorem dX12_highLog_40 : decode cX12_highLog 40 = .ok (.lstore 8, 2) := by decide +kernel
theorem dX12_highLog_42 : decode cX12_highLog 42 = .ok (.lload 8, 2) := by decide +kernel
theorem dX12_highLog_44 : decode cX12_highLog 44 = .ok (.ldc2_w 96, 3) := by decide +kernel
theorem dX12_highLog_47 : decode cX12_highLog 47 = .ok (.ldiv, 1) := by decide +kernel
theorem dX12_highLog_48 : decode cX12_highLog 48 = .ok (.lload 8, 2) := by decide +kernel
theorem dX12_highLog_50 : decode cX12_highLog 50 = .ok (.ldc2_w 96, 3) := by decide +kernel
theorem dX12_highLog_53 : decode cX12_highLog 53 = .ok (.lrem, 1) := by decide +kernel
theorem dX12_highLog_54 : decode cX12_highLog 54 = .ok (.lconst 0, 1) := by decide +kernel
theorem dX12_highLog_55 : decode cX12_highLog 55 = .ok (.lcmp, 1) := by decide +kernel
theorem dX12_highLog_56 : decode cX12_highLog 56 = .ok (.ifCond .ne 7, 3) := by decide +kernel
theorem dX12_highLog_59 : decode cX12_highLog 59 = .ok (.lconst 0, 1) := by decide +kernel
theorem dX12_highLog_60 : decode cX12_highLog 60 = .ok (.goto 4, 3) := by decide +kernel
theorem dX12_highLog_63 : decode cX12_highLog 63 = .ok (.lconst 1, 1) := by decide +kernel
theorem dX12_highLog_64 : decode cX12_highLog 64 = .ok (.ladd, 1) := by decide +kernel
theorem dX12_highLog_65 : decode cX12_highLog 65 = .ok (.lstore_n 3, 1) := by decide +kernel
theorem dX12_highLog_66 : decode cX12_highLog 66 = .ok (.ldc2_w 98, 3) := by decide +kernel
theorem dX12_highLog_69 : decode cX12_highLog 69 = .ok (.lload 5, 2) := by decide +kernel
theorem dX12_highLog_71 : decode cX12_highLog 71 = .ok (.lmul, 1) := by decide +kernel
theorem dX12_highLog_72 : decode cX12_highLog 72 = .ok (.lstore 5, 2) := by decide +kernel
theorem dX12_highLog_74 : decode cX12_highLog 74 = .ok (.lload_n 3, 1) := by decide +kernel
theorem dX12_highLog_75 : decode cX12_highLog 75 = .ok (.ldc2_w 100, 3) := by decide +kernel
theorem dX12_highLog_78 : decode cX12_highLog 78 = .ok (.lcmp, 1) := by decide +kernel
theorem dX12_highLog_79 : decode cX12_highLog 79 = .ok (.ifCond .lt 21, 3) := by decide +kernel
theorem dX12_highLog_82 : decode cX12_highLog 82 = .ok (.lload 5, 2) := by decide +kernel
theorem dX12_highLog_84 : decode cX12_highLog 84 = .ok (.lconst 1, 1) := by decide +kernel
theorem dX12_highLog_85 : decode cX12_highLog 85 = .ok (.ladd, 1) := by decide +kernel
theorem dX12_highLog_86 : decode cX12_highLog 86 = .ok (.lstore 5, 2) := by decide +kernel
theorem dX12_highLog_88 : decode cX12_highLog 88 = .ok (.lload_n 3, 1) := by decide +kernel
theorem dX12_highLog_89 : decode cX12_highLog 89 = .ok (.ldc2_w 98, 3) := by decide +kernel
theorem dX12_highLog_92 : decode cX12_highLog 92 = .ok (.ldiv, 1) := by decide +kernel
theorem dX12_highLog_93 : decode cX12_highLog 93 = .ok (.lload_n 3, 1) := by decide +kernel
theorem dX12_highLog_94 : decode cX12_highLog 94 = .ok (.ldc2_w 98, 3) := by decide +kernel
theorem dX12_highLog_97 : decode cX12_highLog 97 = .ok (.lrem, 1) := by decide +kernel
theorem dX12_highLog_98 : decode cX12_highLog 98 = .ok (.ladd, 1) := by decide +kernel
theorem dX12_highLog_99 : decode cX12_highLog 99 = .ok (.lstore_n 3, 1) := by decide +kernel
theorem dX12_highLog_100 : decode cX12_highLog 100 = .ok (.iinc 7 1, 3) := by decide +kernel
theorem dX12_highLog_103 : decode cX12_highLog 103 = .ok (.goto (-72), 3) := by decide +kernel
theorem dX12_highLog_106 : decode cX12_highLog 106 = .ok (.iload_n 2, 1) := by decide +kernel
theorem dX12_highLog_107 : decode cX12_highLog 107 = .ok (.i2l, 1) := by decide +kernel
theorem dX12_highLog_108 : decode cX12_highLog 108 = .ok (.iload_n 1, 1) := by decide +kernel
theorem dX12_highLog_109 : decode cX12_highLog 109 = .ok (.lshl, 1) := by decide +kernel
theorem dX12_highLog_110 : decode cX12_highLog 110 = .ok (.lload 5, 2) := by decide +kernel
theorem dX12_highLog_112 : decode cX12_highLog 112 = .ok (.ladd, 1) := by decide +kernel
theorem dX12_highLog_113 : decode cX12_highLog 113 = .ok (.lconst 1, 1) := by decide +kernel
theorem dX12_highLog_114 : decode cX12_highLog 114 = .ok (.ladd, 1) := by decide +kernel
theorem dX12_highLog_115 : decode cX12_highLog 115 = .ok (.lreturn, 1) := by decide +kernel
theorem dX12_log_0 : decode cX12_log 0 = .ok (.aload_n 0, 1) := by decide +kernel
theorem dX12_log_1 : decode cX12_log 1 = .ok (.iconst 0, 1) := by decide +kernel
theorem dX12_log_2 : decode cX12_log 2 = .ok (.putfield 59, 3) := by decide +kernel
theorem dX12_log_5 : decode cX12_log 5 = .ok (.iload_n 1, 1) := by decide +kernel
theorem dX12_log_6 : decode cX12_log 6 = .ok (.i2l, 1) := by decide +kernel
theorem dX12_log_7 : decode cX12_log 7 = .ok (.lconst 1, 1) := by decide +kernel
theorem dX12_log_8 : decode cX12_log 8 = .ok (.ldc2_w 102, 3) := by decide +kernel
theorem dX12_log_11 : decode cX12_log 11 = .ok (.invokestatic 64, 3) := by decide +kernel
theorem dX12_log_14 : decode cX12_log 14 = .ok (.ifCond .eq 25, 3) := by decide +kernel
theorem dX12_log_17 : decode cX12_log 17 = .ok (.iload_n 2, 1) := by decide +kernel
theorem dX12_log_18 : decode cX12_log 18 = .ok (.i2l, 1) := by decide +kernel
theorem dX12_log_19 : decode cX12_log 19 = .ok (.lconst 0, 1) := by decide +kernel
theorem dX12_log_20 : decode cX12_log 20 = .ok (.ldc2_w 104, 3) := by decide +kernel
theorem dX12_log_23 : decode cX12_log 23 = .ok (.invokestatic 64, 3) := by decide +kernel
theorem dX12_log_26 : decode cX12_log 26 = .ok (.ifCond .eq 13, 3) := by decide +kernel
theorem dX12_log_29 : decode cX12_log 29 = .ok (.iload_n 3, 1) := by decide +kernel
theorem dX12_log_30 : decode cX12_log 30 = .ok (.i2l, 1) := by decide +kernel
theorem dX12_log_31 : decode cX12_log 31 = .ok (.lconst 0, 1) := by decide +kernel
theorem dX12_log_32 : decode cX12_log 32 = .ok (.lconst 1, 1) := by decide +kernel
theorem dX12_log_33 : decode cX12_log 33 = .ok (.invokestatic 64, 3) := by decide +kernel
theorem dX12_log_36 : decode cX12_log 36 = .ok (.ifCond .ne 7, 3) := by decide +kernel
theorem dX12_log_39 : decode cX12_log 39 = .ok (.ldc2_w 90, 3) := by decide +kernel
theorem dX12_log_42 : decode cX12_log 42 = .ok (.lreturn, 1) := by decide +kernel
theorem dX12_log_43 : decode cX12_log 43 = .ok (.iload_n 3, 1) := by decide +kernel
theorem dX12_log_44 : decode cX12_log 44 = .ok (.ifCond .ne 11, 3) := by decide +kernel
theorem dX12_log_47 : decode cX12_log 47 = .ok (.iload_n 1, 1) := by decide +kernel
theorem dX12_log_48 : decode cX12_log 48 = .ok (.iload_n 2, 1) := by decide +kernel
theorem dX12_log_49 : decode cX12_log 49 = .ok (.invokestatic 106, 3) := by decide +kernel
theorem dX12_log_52 : decode cX12_log 52 = .ok (.goto 8, 3) := by decide +kernel
theorem dX12_log_55 : decode cX12_log 55 = .ok (.iload_n 1, 1) := by decide +kernel
theorem dX12_log_56 : decode cX12_log 56 = .ok (.iload_n 2, 1) := by decide +kernel
theorem dX12_log_57 : decode cX12_log 57 = .ok (.invokestatic 110, 3) := by decide +kernel
theorem dX12_log_60 : decode cX12_log 60 = .ok (.lreturn, 1) := by decide +kernel
theorem dX12_weight_0 : decode cX12_weight 0 = .ok (.aload_n 0, 1) := by decide +kernel
theorem dX12_weight_1 : decode cX12_weight 1 = .ok (.iconst 0, 1) := by decide +kernel
theorem dX12_weight_2 : decode cX12_weight 2 = .ok (.putfield 59, 3) := by decide +kernel
theorem dX12_weight_5 : decode cX12_weight 5 = .ok (.iload_n 1, 1) := by decide +kernel
theorem dX12_weight_6 : decode cX12_weight 6 = .ok (.invokestatic 68, 3) := by decide +kernel
theorem dX12_weight_9 : decode cX12_weight 9 = .ok (.ifCond .eq 15, 3) := by decide +kernel
theorem dX12_weight_12 : decode cX12_weight 12 = .ok (.iload_n 2, 1) := by decide +kernel
theorem dX12_weight_13 : decode cX12_weight 13 = .ok (.i2l, 1) := by decide +kernel
theorem dX12_weight_14 : decode cX12_weight 14 = .ok (.lconst 0, 1) := by decide +kernel
theorem dX12_weight_15 : decode cX12_weight 15 = .ok (.ldc2_w 113, 3) := by decide +kernel
theorem dX12_weight_18 : decode cX12_weight 18 = .ok (.invokestatic 64, 3) := by decide +kernel
theorem dX12_weight_21 : decode cX12_weight 21 = .ok (.ifCond .ne 5, 3) := by decide +kernel
theorem dX12_weight_24 : decode cX12_weight 24 = .ok (.iconst (-1), 1) := by decide +kernel
theorem dX12_weight_25 : decode cX12_weight 25 = .ok (.ireturn, 1) := by decide +kernel
theorem dX12_weight_26 : decode cX12_weight 26 = .ok (.aload_n 0, 1) := by decide +kernel
theorem dX12_weight_27 : decode cX12_weight 27 = .ok (.getfield 13, 3) := by decide +kernel
theorem dX12_weight_30 : decode cX12_weight 30 = .ok (.iload_n 1, 1) := by decide +kernel
theorem dX12_weight_31 : decode cX12_weight 31 = .ok (.iaload, 1) := by decide +kernel
theorem dX12_weight_32 : decode cX12_weight 32 = .ok (.istore_n 3, 1) := by decide +kernel
theorem dX12_weight_33 : decode cX12_weight 33 = .ok (.aload_n 0, 1) := by decide +kernel
theorem dX12_weight_34 : decode cX12_weight 34 = .ok (.getfield 13, 3) := by decide +kernel
theorem dX12_weight_37 : decode cX12_weight 37 = .ok (.iload_n 1, 1) := by decide +kernel
theorem dX12_weight_38 : decode cX12_weight 38 = .ok (.iload_n 2, 1) := by decide +kernel
theorem dX12_weight_39 : decode cX12_weight 39 = .ok (.iastore, 1) := by decide +kernel
theorem dX12_weight_40 : decode cX12_weight 40 = .ok (.iload_n 3, 1) := by decide +kernel
theorem dX12_weight_41 : decode cX12_weight 41 = .ok (.ireturn, 1) := by decide +kernel
theorem dX12_sumOfWeights_0 : decode cX12_sumOfWeights 0 = .ok (.iconst 0, 1) := by decide +kernel
theorem dX12_sumOfWeights_1 : decode cX12_sumOfWeights 1 = .ok (.istore_n 1, 1) := by decide +kernel
theorem dX12_sumOfWeights_2 : decode cX12_sumOfWeights 2 = .ok (.iconst 0, 1) := by decide +kernel
theorem dX12_sumOfWeights_3 : decode cX12_sumOfWeights 3 = .ok (.istore_n 2, 1) := by decide +kernel
theorem dX12_sumOfWeights_4 : decode cX12_sumOfWeights 4 = .ok (.iload_n 2, 1) := by decide +kernel
theorem dX12_sumOfWeights_5 : decode cX12_sumOfWeights 5 = .ok (.bipush 16, 2) := by decide +kernel
theorem dX12_sumOfWeights_7 : decode cX12_sumOfWeights 7 = .ok (.if_icmp .ge 18, 3) := by decide +kernel
theorem dX12_sumOfWeights_10 : decode cX12_sumOfWeights 10 = .ok (.iload_n 1, 1) := by decide +kernel
theorem dX12_sumOfWeights_11 : decode cX12_sumOfWeights 11 = .ok (.aload_n 0, 1) := by decide +kernel
theorem dX12_sumOfWeights_12 : decode cX12_sumOfWeights 12 = .ok (.getfield 13, 3) := by decide +kernel
theorem dX12_sumOfWeights_15 : decode cX12_sumOfWeights 15 = .ok (.iload_n 2, 1) := by decide +kernel
theorem dX12_sumOfWeights_16 : decode cX12_sumOfWeights 16 = .ok (.iaload, 1) := by decide +kernel
theorem dX12_sumOfWeights_17 : decode cX12_sumOfWeights 17 = .ok (.iadd, 1) := by decide +kernel
theorem dX12_sumOfWeights_18 : decode cX12_sumOfWeights 18 = .ok (.istore_n 1, 1) := by decide +kernel
theorem dX12_sumOfWeights_19 : decode cX12_sumOfWeights 19 = .ok (.iinc 2 1, 3) := by decide +kernel
theorem dX12_sumOfWeights_22 : decode cX12_sumOfWeights 22 = .ok (.goto (-18), 3) := by decide +kernel
theorem dX12_sumOfWeights_25 : decode cX12_sumOfWeights 25 = .ok (.iload_n 1, 1) := by decide +kernel
theorem dX12_sumOfWeights_26 : decode cX12_sumOfWeights 26 = .ok (.ireturn, 1) := by decide +kernel
theorem dX12_share_0 : decode cX12_share 0 = .ok (.aload_n 0, 1) := by decide +kernel
theorem dX12_share_1 : decode cX12_share 1 = .ok (.invokevirtual 115, 3) := by decide +kernel
theorem dX12_share_4 : decode cX12_share 4 = .ok (.istore_n 2, 1) := by decide +kernel
theorem dX12_share_5 : decode cX12_share 5 = .ok (.aload_n 0, 1) := by decide +kernel
theorem dX12_share_6 : decode cX12_share 6 = .ok (.iload_n 1, 1) := by decide +kernel
theorem dX12_share_7 : decode cX12_share 7 = .ok (.invokestatic 68, 3) := by decide +kernel
theorem dX12_share_10 : decode cX12_share 10 = .ok (.ifCond .ne 7, 3) := by decide +kernel
theorem dX12_share_13 : decode cX12_share 13 = .ok (.iconst 2, 1) := by decide +kernel
theorem dX12_share_14 : decode cX12_share 14 = .ok (.goto 12, 3) := by decide +kernel
theorem dX12_share_17 : decode cX12_share 17 = .ok (.iload_n 2, 1) := by decide +kernel
theorem dX12_share_18 : decode cX12_share 18 = .ok (.ifCond .ne 7, 3) := by decide +kernel
theorem dX12_share_21 : decode cX12_share 21 = .ok (.iconst 1, 1) := by decide +kernel
theorem dX12_share_22 : decode cX12_share 22 = .ok (.goto 4, 3) := by decide +kernel
theorem dX12_share_25 : decode cX12_share 25 = .ok (.iconst 0, 1) := by decide +kernel
theorem dX12_share_26 : decode cX12_share 26 = .ok (.putfield 59, 3) := by decide +kernel
theorem dX12_share_29 : decode cX12_share 29 = .ok (.aload_n 0, 1) := by decide +kernel
theorem dX12_share_30 : decode cX12_share 30 = .ok (.getfield 59, 3) := by decide +kernel
theorem dX12_share_33 : decode cX12_share 33 = .ok (.ifCond .ne 20, 3) := by decide +kernel
theorem dX12_share_36 : decode cX12_share 36 = .ok (.ldc2_w 119, 3) := by decide +kernel
theorem dX12_share_39 : decode cX12_share 39 = .ok (.aload_n 0, 1) := by decide +kernel
theorem dX12_share_40 : decode cX12_share 40 = .ok (.getfield 13, 3) := by decide +kernel
theorem dX12_share_43 : decode cX12_share 43 = .ok (.iload_n 1, 1) := by decide +kernel
theorem dX12_share_44 : decode cX12_share 44 = .ok (.iaload, 1) := by decide +kernel
theorem dX12_share_45 : decode cX12_share 45 = .ok (.i2l, 1) := by decide +kernel
theorem dX12_share_46 : decode cX12_share 46 = .ok (.lmul, 1) := by decide +kernel
theorem dX12_share_47 : decode cX12_share 47 = .ok (.iload_n 2, 1) := by decide +kernel
theorem dX12_share_48 : decode cX12_share 48 = .ok (.i2l, 1) := by decide +kernel
theorem dX12_share_49 : decode cX12_share 49 = .ok (.ldiv, 1) := by decide +kernel
theorem dX12_share_50 : decode cX12_share 50 = .ok (.goto 4, 3) := by decide +kernel
theorem dX12_share_53 : decode cX12_share 53 = .ok (.lconst 0, 1) := by decide +kernel
theorem dX12_share_54 : decode cX12_share 54 = .ok (.lreturn, 1) := by decide +kernel
theorem dX12_costOf_0 : decode cX12_costOf 0 = .ok (.iload_n 0, 1) := by decide +kernel
theorem dX12_costOf_1 : decode cX12_costOf 1 = .ok (.iload_n 1, 1) := by decide +kernel
theorem dX12_costOf_2 : decode cX12_costOf 2 = .ok (.if_icmp .ne 5, 3) := by decide +kernel
theorem dX12_costOf_5 : decode cX12_costOf 5 = .ok (.lconst 0, 1) := by decide +kernel
theorem dX12_costOf_6 : decode cX12_costOf 6 = .ok (.lreturn, 1) := by decide +kernel
theorem dX12_costOf_7 : decode cX12_costOf 7 = .ok (.iload_n 3, 1) := by decide +kernel
theorem dX12_costOf_8 : decode cX12_costOf 8 = .ok (.iconst 1, 1) := by decide +kernel
theorem dX12_costOf_9 : decode cX12_costOf 9 = .ok (.if_icmp .ne 15, 3) := by decide +kernel
theorem dX12_costOf_12 : decode cX12_costOf 12 = .ok (.iload_n 1, 1) := by decide +kernel
theorem dX12_costOf_13 : decode cX12_costOf 13 = .ok (.iload_n 2, 1) := by decide +kernel
theorem dX12_costOf_14 : decode cX12_costOf 14 = .ok (.invokestatic 110, 3) := by decide +kernel
theorem dX12_costOf_17 : decode cX12_costOf 17 = .ok (.iload_n 0, 1) := by decide +kernel
theorem dX12_costOf_18 : decode cX12_costOf 18 = .ok (.iload_n 2, 1) := by decide +kernel
theorem dX12_costOf_19 : decode cX12_costOf 19 = .ok (.invokestatic 106, 3) := by decide +kernel
theorem dX12_costOf_22 : decode cX12_costOf 22 = .ok (.lsub, 1) := by decide +kernel
theorem dX12_costOf_23 : decode cX12_costOf 23 = .ok (.lreturn, 1) := by decide +kernel
theorem dX12_costOf_24 : decode cX12_costOf 24 = .ok (.iload_n 1, 1) := by decide +kernel
theorem dX12_costOf_25 : decode cX12_costOf 25 = .ok (.iload_n 2, 1) := by decide +kernel
theorem dX12_costOf_26 : decode cX12_costOf 26 = .ok (.invokestatic 106, 3) := by decide +kernel
theorem dX12_costOf_29 : decode cX12_costOf 29 = .ok (.iload_n 0, 1) := by decide +kernel
theorem dX12_costOf_30 : decode cX12_costOf 30 = .ok (.iload_n 2, 1) := by decide +kernel
theorem dX12_costOf_31 : decode cX12_costOf 31 = .ok (.invokestatic 110, 3) := by decide +kernel
theorem dX12_costOf_34 : decode cX12_costOf 34 = .ok (.lsub, 1) := by decide +kernel
theorem dX12_costOf_35 : decode cX12_costOf 35 = .ok (.lstore 4, 2) := by decide +kernel
theorem dX12_costOf_37 : decode cX12_costOf 37 = .ok (.lload 4, 2) := by decide +kernel
theorem dX12_costOf_39 : decode cX12_costOf 39 = .ok (.lconst 0, 1) := by decide +kernel
theorem dX12_costOf_40 : decode cX12_costOf 40 = .ok (.lcmp, 1) := by decide +kernel
theorem dX12_costOf_41 : decode cX12_costOf 41 = .ok (.ifCond .ge 7, 3) := by decide +kernel
theorem dX12_costOf_44 : decode cX12_costOf 44 = .ok (.lconst 0, 1) := by decide +kernel
theorem dX12_costOf_45 : decode cX12_costOf 45 = .ok (.goto 5, 3) := by decide +kernel
theorem dX12_costOf_48 : decode cX12_costOf 48 = .ok (.lload 4, 2) := by decide +kernel
theorem dX12_costOf_50 : decode cX12_costOf 50 = .ok (.lreturn, 1) := by decide +kernel
theorem dX12_content_0 : decode cX12_content 0 = .ok (.aload_n 0, 1) := by decide +kernel
theorem dX12_content_1 : decode cX12_content 1 = .ok (.invokevirtual 87, 3) := by decide +kernel
theorem dX12_content_4 : decode cX12_content 4 = .ok (.lconst 0, 1) := by decide +kernel
theorem dX12_content_5 : decode cX12_content 5 = .ok (.lstore_n 3, 1) := by decide +kernel
theorem dX12_content_6 : decode cX12_content 6 = .ok (.iconst 0, 1) := by decide +kernel
theorem dX12_content_7 : decode cX12_content 7 = .ok (.istore 5, 2) := by decide +kernel
theorem dX12_content_9 : decode cX12_content 9 = .ok (.iload 5, 2) := by decide +kernel
theorem dX12_content_11 : decode cX12_content 11 = .ok (.aload_n 0, 1) := by decide +kernel
theorem dX12_content_12 : decode cX12_content 12 = .ok (.getfield 78, 3) := by decide +kernel
theorem dX12_content_15 : decode cX12_content 15 = .ok (.if_icmp .ge 66, 3) := by decide +kernel
theorem dX12_content_18 : decode cX12_content 18 = .ok (.iconst 0, 1) := by decide +kernel
theorem dX12_content_19 : decode cX12_content 19 = .ok (.istore 6, 2) := by decide +kernel
theorem dX12_content_21 : decode cX12_content 21 = .ok (.iload 6, 2) := by decide +kernel
theorem dX12_content_23 : decode cX12_content 23 = .ok (.bipush 16, 2) := by decide +kernel
theorem dX12_content_25 : decode cX12_content 25 = .ok (.if_icmp .ge 50, 3) := by decide +kernel
theorem dX12_content_28 : decode cX12_content 28 = .ok (.aload_n 0, 1) := by decide +kernel
theorem dX12_content_29 : decode cX12_content 29 = .ok (.getfield 19, 3) := by decide +kernel
theorem dX12_content_32 : decode cX12_content 32 = .ok (.bipush 16, 2) := by decide +kernel
theorem dX12_content_34 : decode cX12_content 34 = .ok (.iload 5, 2) := by decide +kernel
theorem dX12_content_36 : decode cX12_content 36 = .ok (.imul, 1) := by decide +kernel
theorem dX12_content_37 : decode cX12_content 37 = .ok (.iload 6, 2) := by decide +kernel
theorem dX12_content_39 : decode cX12_content 39 = .ok (.iadd, 1) := by decide +kernel
theorem dX12_content_40 : decode cX12_content 40 = .ok (.iaload, 1) := by decide +kernel
theorem dX12_content_41 : decode cX12_content 41 = .ok (.istore 7, 2) := by decide +kernel
theorem dX12_content_43 : decode cX12_content 43 = .ok (.iload 7, 2) := by decide +kernel
theorem dX12_content_45 : decode cX12_content 45 = .ok (.ifCond .le 24, 3) := by decide +kernel
theorem dX12_content_48 : decode cX12_content 48 = .ok (.lload_n 3, 1) := by decide +kernel
theorem dX12_content_49 : decode cX12_content 49 = .ok (.iload 7, 2) := by decide +kernel
theorem dX12_content_51 : decode cX12_content 51 = .ok (.i2l, 1) := by decide +kernel
theorem dX12_content_52 : decode cX12_content 52 = .ok (.iload 7, 2) := by decide +kernel
theorem dX12_content_54 : decode cX12_content 54 = .ok (.aload_n 0, 1) := by decide +kernel
theorem dX12_content_55 : decode cX12_content 55 = .ok (.getfield 22, 3) := by decide +kernel
theorem dX12_content_58 : decode cX12_content 58 = .ok (.iload 5, 2) := by decide +kernel
theorem dX12_content_60 : decode cX12_content 60 = .ok (.iaload, 1) := by decide +kernel
theorem dX12_content_61 : decode cX12_content 61 = .ok (.iload_n 1, 1) := by decide +kernel
theorem dX12_content_62 : decode cX12_content 62 = .ok (.iload_n 2, 1) := by decide +kernel
theorem dX12_content_63 : decode cX12_content 63 = .ok (.invokestatic 121, 3) := by decide +kernel
theorem dX12_content_66 : decode cX12_content 66 = .ok (.lmul, 1) := by decide +kernel
theorem dX12_content_67 : decode cX12_content 67 = .ok (.ladd, 1) := by decide +kernel
theorem dX12_content_68 : decode cX12_content 68 = .ok (.lstore_n 3, 1) := by decide +kernel
theorem dX12_content_69 : decode cX12_content 69 = .ok (.iinc 6 1, 3) := by decide +kernel
theorem dX12_content_72 : decode cX12_content 72 = .ok (.goto (-51), 3) := by decide +kernel
theorem dX12_content_75 : decode cX12_content 75 = .ok (.iinc 5 1, 3) := by decide +kernel
theorem dX12_content_78 : decode cX12_content 78 = .ok (.goto (-69), 3) := by decide +kernel
theorem dX12_content_81 : decode cX12_content 81 = .ok (.lload_n 3, 1) := by decide +kernel
theorem dX12_content_82 : decode cX12_content 82 = .ok (.lreturn, 1) := by decide +kernel
theorem dX12_often_0 : decode cX12_often 0 = .ok (.iconst 0, 1) := by decide +kernel
theorem dX12_often_1 : decode cX12_often 1 = .ok (.istore_n 3, 1) := by decide +kernel
theorem dX12_often_2 : decode cX12_often 2 = .ok (.iconst 0, 1) := by decide +kernel
theorem dX12_often_3 : decode cX12_often 3 = .ok (.istore 4, 2) := by decide +kernel
theorem dX12_often_5 : decode cX12_often 5 = .ok (.iload 4, 2) := by decide +kernel
theorem dX12_often_7 : decode cX12_often 7 = .ok (.iload_n 2, 1) := by decide +kernel
theorem dX12_often_8 : decode cX12_often 8 = .ok (.if_icmp .ge 28, 3) := by decide +kernel
theorem dX12_often_11 : decode cX12_often 11 = .ok (.iload_n 3, 1) := by decide +kernel
theorem dX12_often_12 : decode cX12_often 12 = .ok (.aload_n 0, 1) := by decide +kernel
theorem dX12_often_13 : decode cX12_often 13 = .ok (.getfield 7, 3) := by decide +kernel
theorem dX12_often_16 : decode cX12_often 16 = .ok (.iload 4, 2) := by decide +kernel
theorem dX12_often_18 : decode cX12_often 18 = .ok (.iaload, 1) := by decide +kernel
theorem dX12_often_19 : decode cX12_often 19 = .ok (.iload_n 1, 1) := by decide +kernel
theorem dX12_often_20 : decode cX12_often 20 = .ok (.if_icmp .ne 7, 3) := by decide +kernel
theorem dX12_often_23 : decode cX12_often 23 = .ok (.iconst 1, 1) := by decide +kernel
theorem dX12_often_24 : decode cX12_often 24 = .ok (.goto 4, 3) := by decide +kernel
theorem dX12_often_27 : decode cX12_often 27 = .ok (.iconst 0, 1) := by decide +kernel
theorem dX12_often_28 : decode cX12_often 28 = .ok (.iadd, 1) := by decide +kernel
theorem dX12_often_29 : decode cX12_often 29 = .ok (.istore_n 3, 1) := by decide +kernel
theorem dX12_often_30 : decode cX12_often 30 = .ok (.iinc 4 1, 3) := by decide +kernel
theorem dX12_often_33 : decode cX12_often 33 = .ok (.goto (-28), 3) := by decide +kernel
theorem dX12_often_36 : decode cX12_often 36 = .ok (.iload_n 3, 1) := by decide +kernel
theorem dX12_often_37 : decode cX12_often 37 = .ok (.ireturn, 1) := by decide +kernel
theorem dX12_cross_0 : decode cX12_cross 0 = .ok (.aload_n 0, 1) := by decide +kernel
theorem dX12_cross_1 : decode cX12_cross 1 = .ok (.invokevirtual 115, 3) := by decide +kernel
theorem dX12_cross_4 : decode cX12_cross 4 = .ok (.istore_n 3, 1) := by decide +kernel
theorem dX12_cross_5 : decode cX12_cross 5 = .ok (.lconst 0, 1) := by decide +kernel
theorem dX12_cross_6 : decode cX12_cross 6 = .ok (.lstore 4, 2) := by decide +kernel
theorem dX12_cross_8 : decode cX12_cross 8 = .ok (.iconst 0, 1) := by decide +kernel
theorem dX12_cross_9 : decode cX12_cross 9 = .ok (.istore 6, 2) := by decide +kernel
theorem dX12_cross_11 : decode cX12_cross 11 = .ok (.iload 6, 2) := by decide +kernel
theorem dX12_cross_13 : decode cX12_cross 13 = .ok (.bipush 16, 2) := by decide +kernel
theorem dX12_cross_15 : decode cX12_cross 15 = .ok (.if_icmp .ge 67, 3) := by decide +kernel
theorem dX12_cross_18 : decode cX12_cross 18 = .ok (.aload_n 0, 1) := by decide +kernel
theorem dX12_cross_19 : decode cX12_cross 19 = .ok (.iload 6, 2) := by decide +kernel
theorem dX12_cross_21 : decode cX12_cross 21 = .ok (.aload_n 0, 1) := by decide +kernel
theorem dX12_cross_22 : decode cX12_cross 22 = .ok (.getfield 72, 3) := by decide +kernel
theorem dX12_cross_25 : decode cX12_cross 25 = .ok (.invokevirtual 125, 3) := by decide +kernel
theorem dX12_cross_28 : decode cX12_cross 28 = .ok (.istore 7, 2) := by decide +kernel
theorem dX12_cross_30 : decode cX12_cross 30 = .ok (.iload 7, 2) := by decide +kernel
theorem dX12_cross_32 : decode cX12_cross 32 = .ok (.ifCond .le 17, 3) := by decide +kernel
theorem dX12_cross_35 : decode cX12_cross 35 = .ok (.aload_n 0, 1) := by decide +kernel
theorem dX12_cross_36 : decode cX12_cross 36 = .ok (.getfield 13, 3) := by decide +kernel
theorem dX12_cross_39 : decode cX12_cross 39 = .ok (.iload 6, 2) := by decide +kernel
theorem dX12_cross_41 : decode cX12_cross 41 = .ok (.iaload, 1) := by decide +kernel
theorem dX12_cross_42 : decode cX12_cross 42 = .ok (.ifCond .ne 7, 3) := by decide +kernel
theorem dX12_cross_45 : decode cX12_cross 45 = .ok (.ldc2_w 129, 3) := by decide +kernel
theorem dX12_cross_48 : decode cX12_cross 48 = .ok (.lreturn, 1) := by decide +kernel
theorem dX12_cross_49 : decode cX12_cross 49 = .ok (.iload 7, 2) := by decide +kernel
theorem dX12_cross_51 : decode cX12_cross 51 = .ok (.ifCond .le 25, 3) := by decide +kernel
theorem dX12_cross_54 : decode cX12_cross 54 = .ok (.lload 4, 2) := by decide +kernel
theorem dX12_cross_56 : decode cX12_cross 56 = .ok (.iload 7, 2) := by decide +kernel
theorem dX12_cross_58 : decode cX12_cross 58 = .ok (.i2l, 1) := by decide +kernel
theorem dX12_cross_59 : decode cX12_cross 59 = .ok (.aload_n 0, 1) := by decide +kernel
theorem dX12_cross_60 : decode cX12_cross 60 = .ok (.getfield 13, 3) := by decide +kernel
theorem dX12_cross_63 : decode cX12_cross 63 = .ok (.iload 6, 2) := by decide +kernel
theorem dX12_cross_65 : decode cX12_cross 65 = .ok (.iaload, 1) := by decide +kernel
theorem dX12_cross_66 : decode cX12_cross 66 = .ok (.iload_n 3, 1) := by decide +kernel
theorem dX12_cross_67 : decode cX12_cross 67 = .ok (.iload_n 1, 1) := by decide +kernel
theorem dX12_cross_68 : decode cX12_cross 68 = .ok (.iload_n 2, 1) := by decide +kernel
theorem dX12_cross_69 : decode cX12_cross 69 = .ok (.invokestatic 121, 3) := by decide +kernel
theorem dX12_cross_72 : decode cX12_cross 72 = .ok (.lmul, 1) := by decide +kernel
theorem dX12_cross_73 : decode cX12_cross 73 = .ok (.ladd, 1) := by decide +kernel
theorem dX12_cross_74 : decode cX12_cross 74 = .ok (.lstore 4, 2) := by decide +kernel
theorem dX12_cross_76 : decode cX12_cross 76 = .ok (.iinc 6 1, 3) := by decide +kernel
theorem dX12_cross_79 : decode cX12_cross 79 = .ok (.goto (-68), 3) := by decide +kernel
theorem dX12_cross_82 : decode cX12_cross 82 = .ok (.lload 4, 2) := by decide +kernel
theorem dX12_cross_84 : decode cX12_cross 84 = .ok (.lreturn, 1) := by decide +kernel
theorem dX12_growing_0 : decode cX12_growing 0 = .ok (.lconst 0, 1) := by decide +kernel
theorem dX12_growing_1 : decode cX12_growing 1 = .ok (.lstore_n 3, 1) := by decide +kernel
theorem dX12_growing_2 : decode cX12_growing 2 = .ok (.iconst 0, 1) := by decide +kernel
theorem dX12_growing_3 : decode cX12_growing 3 = .ok (.istore 5, 2) := by decide +kernel
theorem dX12_growing_5 : decode cX12_growing 5 = .ok (.iload 5, 2) := by decide +kernel
theorem dX12_growing_7 : decode cX12_growing 7 = .ok (.aload_n 0, 1) := by decide +kernel
theorem dX12_growing_8 : decode cX12_growing 8 = .ok (.getfield 72, 3) := by decide +kernel
theorem dX12_growing_11 : decode cX12_growing 11 = .ok (.if_icmp .ge 37, 3) := by decide +kernel
theorem dX12_growing_14 : decode cX12_growing 14 = .ok (.lload_n 3, 1) := by decide +kernel
theorem dX12_growing_15 : decode cX12_growing 15 = .ok (.aload_n 0, 1) := by decide +kernel
theorem dX12_growing_16 : decode cX12_growing 16 = .ok (.aload_n 0, 1) := by decide +kernel
theorem dX12_growing_17 : decode cX12_growing 17 = .ok (.getfield 7, 3) := by decide +kernel
theorem dX12_growing_20 : decode cX12_growing 20 = .ok (.iload 5, 2) := by decide +kernel
theorem dX12_growing_22 : decode cX12_growing 22 = .ok (.iaload, 1) := by decide +kernel
theorem dX12_growing_23 : decode cX12_growing 23 = .ok (.iload 5, 2) := by decide +kernel
theorem dX12_growing_25 : decode cX12_growing 25 = .ok (.invokevirtual 125, 3) := by decide +kernel
theorem dX12_growing_28 : decode cX12_growing 28 = .ok (.iconst 1, 1) := by decide +kernel
theorem dX12_growing_29 : decode cX12_growing 29 = .ok (.iadd, 1) := by decide +kernel
theorem dX12_growing_30 : decode cX12_growing 30 = .ok (.iload 5, 2) := by decide +kernel
theorem dX12_growing_32 : decode cX12_growing 32 = .ok (.bipush 16, 2) := by decide +kernel
theorem dX12_growing_34 : decode cX12_growing 34 = .ok (.iadd, 1) := by decide +kernel
theorem dX12_growing_35 : decode cX12_growing 35 = .ok (.iload_n 1, 1) := by decide +kernel
theorem dX12_growing_36 : decode cX12_growing 36 = .ok (.iload_n 2, 1) := by decide +kernel
theorem dX12_growing_37 : decode cX12_growing 37 = .ok (.invokestatic 121, 3) := by decide +kernel
theorem dX12_growing_40 : decode cX12_growing 40 = .ok (.ladd, 1) := by decide +kernel
theorem dX12_growing_41 : decode cX12_growing 41 = .ok (.lstore_n 3, 1) := by decide +kernel
theorem dX12_growing_42 : decode cX12_growing 42 = .ok (.iinc 5 1, 3) := by decide +kernel
theorem dX12_growing_45 : decode cX12_growing 45 = .ok (.goto (-40), 3) := by decide +kernel
theorem dX12_growing_48 : decode cX12_growing 48 = .ok (.lload_n 3, 1) := by decide +kernel
theorem dX12_growing_49 : decode cX12_growing 49 = .ok (.lreturn, 1) := by decide +kernel
theorem dX12_costBy_0 : decode cX12_costBy 0 = .ok (.iload_n 1, 1) := by decide +kernel
theorem dX12_costBy_1 : decode cX12_costBy 1 = .ok (.ifCond .ne 12, 3) := by decide +kernel
theorem dX12_costBy_4 : decode cX12_costBy 4 = .ok (.aload_n 0, 1) := by decide +kernel
theorem dX12_costBy_5 : decode cX12_costBy 5 = .ok (.iload_n 2, 1) := by decide +kernel
theorem dX12_costBy_6 : decode cX12_costBy 6 = .ok (.iload_n 3, 1) := by decide +kernel
theorem dX12_costBy_7 : decode cX12_costBy 7 = .ok (.invokevirtual 131, 3) := by decide +kernel
theorem dX12_costBy_10 : decode cX12_costBy 10 = .ok (.goto 23, 3) := by decide +kernel
theorem dX12_costBy_13 : decode cX12_costBy 13 = .ok (.iload_n 1, 1) := by decide +kernel
theorem dX12_costBy_14 : decode cX12_costBy 14 = .ok (.iconst 1, 1) := by decide +kernel
theorem dX12_costBy_15 : decode cX12_costBy 15 = .ok (.if_icmp .ne 12, 3) := by decide +kernel
theorem dX12_costBy_18 : decode cX12_costBy 18 = .ok (.aload_n 0, 1) := by decide +kernel
theorem dX12_costBy_19 : decode cX12_costBy 19 = .ok (.iload_n 2, 1) := by decide +kernel
theorem dX12_costBy_20 : decode cX12_costBy 20 = .ok (.iload_n 3, 1) := by decide +kernel
theorem dX12_costBy_21 : decode cX12_costBy 21 = .ok (.invokevirtual 134, 3) := by decide +kernel
theorem dX12_costBy_24 : decode cX12_costBy 24 = .ok (.goto 9, 3) := by decide +kernel
theorem dX12_costBy_27 : decode cX12_costBy 27 = .ok (.aload_n 0, 1) := by decide +kernel
theorem dX12_costBy_28 : decode cX12_costBy 28 = .ok (.iload_n 2, 1) := by decide +kernel
theorem dX12_costBy_29 : decode cX12_costBy 29 = .ok (.iload_n 3, 1) := by decide +kernel
theorem dX12_costBy_30 : decode cX12_costBy 30 = .ok (.invokevirtual 137, 3) := by decide +kernel
theorem dX12_costBy_33 : decode cX12_costBy 33 = .ok (.lreturn, 1) := by decide +kernel
theorem dX12_cost_0 : decode cX12_cost 0 = .ok (.aload_n 0, 1) := by decide +kernel
theorem dX12_cost_1 : decode cX12_cost 1 = .ok (.iconst 0, 1) := by decide +kernel
theorem dX12_cost_2 : decode cX12_cost 2 = .ok (.putfield 59, 3) := by decide +kernel
theorem dX12_cost_5 : decode cX12_cost 5 = .ok (.iload_n 1, 1) := by decide +kernel
theorem dX12_cost_6 : decode cX12_cost 6 = .ok (.i2l, 1) := by decide +kernel
theorem dX12_cost_7 : decode cX12_cost 7 = .ok (.lconst 0, 1) := by decide +kernel
theorem dX12_cost_8 : decode cX12_cost 8 = .ok (.ldc2_w 98, 3) := by decide +kernel
theorem dX12_cost_11 : decode cX12_cost 11 = .ok (.invokestatic 64, 3) := by decide +kernel
theorem dX12_cost_14 : decode cX12_cost 14 = .ok (.ifCond .eq 25, 3) := by decide +kernel
theorem dX12_cost_17 : decode cX12_cost 17 = .ok (.iload_n 2, 1) := by decide +kernel
theorem dX12_cost_18 : decode cX12_cost 18 = .ok (.i2l, 1) := by decide +kernel
theorem dX12_cost_19 : decode cX12_cost 19 = .ok (.lconst 0, 1) := by decide +kernel
theorem dX12_cost_20 : decode cX12_cost 20 = .ok (.ldc2_w 104, 3) := by decide +kernel
theorem dX12_cost_23 : decode cX12_cost 23 = .ok (.invokestatic 64, 3) := by decide +kernel
theorem dX12_cost_26 : decode cX12_cost 26 = .ok (.ifCond .eq 13, 3) := by decide +kernel
theorem dX12_cost_29 : decode cX12_cost 29 = .ok (.iload_n 3, 1) := by decide +kernel
theorem dX12_cost_30 : decode cX12_cost 30 = .ok (.i2l, 1) := by decide +kernel
theorem dX12_cost_31 : decode cX12_cost 31 = .ok (.lconst 0, 1) := by decide +kernel
theorem dX12_cost_32 : decode cX12_cost 32 = .ok (.lconst 1, 1) := by decide +kernel
theorem dX12_cost_33 : decode cX12_cost 33 = .ok (.invokestatic 64, 3) := by decide +kernel
theorem dX12_cost_36 : decode cX12_cost 36 = .ok (.ifCond .ne 7, 3) := by decide +kernel
theorem dX12_cost_39 : decode cX12_cost 39 = .ok (.ldc2_w 90, 3) := by decide +kernel
theorem dX12_cost_42 : decode cX12_cost 42 = .ok (.lreturn, 1) := by decide +kernel
theorem dX12_cost_43 : decode cX12_cost 43 = .ok (.aload_n 0, 1) := by decide +kernel
theorem dX12_cost_44 : decode cX12_cost 44 = .ok (.iload_n 1, 1) := by decide +kernel
theorem dX12_cost_45 : decode cX12_cost 45 = .ok (.iload_n 2, 1) := by decide +kernel
theorem dX12_cost_46 : decode cX12_cost 46 = .ok (.iload_n 3, 1) := by decide +kernel
theorem dX12_cost_47 : decode cX12_cost 47 = .ok (.invokevirtual 140, 3) := by decide +kernel
theorem dX12_cost_50 : decode cX12_cost 50 = .ok (.lreturn, 1) := by decide +kernel
theorem dX12_digits_0 : decode cX12_digits 0 = .ok (.aload_n 0, 1) := by decide +kernel
theorem dX12_digits_1 : decode cX12_digits 1 = .ok (.iconst 0, 1) := by decide +kernel
theorem dX12_digits_2 : decode cX12_digits 2 = .ok (.putfield 59, 3) := by decide +kernel
theorem dX12_digits_5 : decode cX12_digits 5 = .ok (.iload_n 1, 1) := by decide +kernel
theorem dX12_digits_6 : decode cX12_digits 6 = .ok (.i2l, 1) := by decide +kernel
theorem dX12_digits_7 : decode cX12_digits 7 = .ok (.lconst 0, 1) := by decide +kernel
theorem dX12_digits_8 : decode cX12_digits 8 = .ok (.ldc2_w 98, 3) := by decide +kernel
theorem dX12_digits_11 : decode cX12_digits 11 = .ok (.invokestatic 64, 3) := by decide +kernel
theorem dX12_digits_14 : decode cX12_digits 14 = .ok (.ifCond .eq 15, 3) := by decide +kernel
theorem dX12_digits_17 : decode cX12_digits 17 = .ok (.iload_n 2, 1) := by decide +kernel
theorem dX12_digits_18 : decode cX12_digits 18 = .ok (.i2l, 1) := by decide +kernel
theorem dX12_digits_19 : decode cX12_digits 19 = .ok (.lconst 0, 1) := by decide +kernel
theorem dX12_digits_20 : decode cX12_digits 20 = .ok (.ldc2_w 119, 3) := by decide +kernel
theorem dX12_digits_23 : decode cX12_digits 23 = .ok (.invokestatic 64, 3) := by decide +kernel
theorem dX12_digits_26 : decode cX12_digits 26 = .ok (.ifCond .ne 5, 3) := by decide +kernel
theorem dX12_digits_29 : decode cX12_digits 29 = .ok (.iconst (-1), 1) := by decide +kernel
theorem dX12_digits_30 : decode cX12_digits 30 = .ok (.ireturn, 1) := by decide +kernel
theorem dX12_digits_31 : decode cX12_digits 31 = .ok (.iconst 0, 1) := by decide +kernel
theorem dX12_digits_32 : decode cX12_digits 32 = .ok (.istore_n 3, 1) := by decide +kernel
theorem dX12_digits_33 : decode cX12_digits 33 = .ok (.iload_n 3, 1) := by decide +kernel
theorem dX12_digits_34 : decode cX12_digits 34 = .ok (.bipush 24, 2) := by decide +kernel
theorem dX12_digits_36 : decode cX12_digits 36 = .ok (.if_icmp .gt 52, 3) := by decide +kernel
theorem dX12_digits_39 : decode cX12_digits 39 = .ok (.aload_n 0, 1) := by decide +kernel
theorem dX12_digits_40 : decode cX12_digits 40 = .ok (.iload_n 1, 1) := by decide +kernel
theorem dX12_digits_41 : decode cX12_digits 41 = .ok (.iload_n 3, 1) := by decide +kernel
theorem dX12_digits_42 : decode cX12_digits 42 = .ok (.iconst 0, 1) := by decide +kernel
theorem dX12_digits_43 : decode cX12_digits 43 = .ok (.invokevirtual 140, 3) := by decide +kernel
theorem dX12_digits_46 : decode cX12_digits 46 = .ok (.lstore 4, 2) := by decide +kernel
theorem dX12_digits_48 : decode cX12_digits 48 = .ok (.lload 4, 2) := by decide +kernel
theorem dX12_digits_50 : decode cX12_digits 50 = .ok (.lconst 0, 1) := by decide +kernel
theorem dX12_digits_51 : decode cX12_digits 51 = .ok (.lcmp, 1) := by decide +kernel
theorem dX12_digits_52 : decode cX12_digits 52 = .ok (.ifCond .ge 6, 3) := by decide +kernel
theorem dX12_digits_55 : decode cX12_digits 55 = .ok (.bipush (-2), 2) := by decide +kernel
theorem dX12_digits_57 : decode cX12_digits 57 = .ok (.ireturn, 1) := by decide +kernel
theorem dX12_digits_58 : decode cX12_digits 58 = .ok (.ldc2_w 144, 3) := by decide +kernel
theorem dX12_digits_61 : decode cX12_digits 61 = .ok (.aload_n 0, 1) := by decide +kernel
theorem dX12_digits_62 : decode cX12_digits 62 = .ok (.iload_n 1, 1) := by decide +kernel
theorem dX12_digits_63 : decode cX12_digits 63 = .ok (.iload_n 3, 1) := by decide +kernel
theorem dX12_digits_64 : decode cX12_digits 64 = .ok (.iconst 1, 1) := by decide +kernel
theorem dX12_digits_65 : decode cX12_digits 65 = .ok (.invokevirtual 140, 3) := by decide +kernel
theorem dX12_digits_68 : decode cX12_digits 68 = .ok (.lload 4, 2) := by decide +kernel
theorem dX12_digits_70 : decode cX12_digits 70 = .ok (.lsub, 1) := by decide +kernel
theorem dX12_digits_71 : decode cX12_digits 71 = .ok (.lmul, 1) := by decide +kernel
theorem dX12_digits_72 : decode cX12_digits 72 = .ok (.iload_n 2, 1) := by decide +kernel
theorem dX12_digits_73 : decode cX12_digits 73 = .ok (.i2l, 1) := by decide +kernel
theorem dX12_digits_74 : decode cX12_digits 74 = .ok (.iload_n 3, 1) := by decide +kernel
theorem dX12_digits_75 : decode cX12_digits 75 = .ok (.lshl, 1) := by decide +kernel
theorem dX12_digits_76 : decode cX12_digits 76 = .ok (.lcmp, 1) := by decide +kernel
theorem dX12_digits_77 : decode cX12_digits 77 = .ok (.ifCond .gt 5, 3) := by decide +kernel
theorem dX12_digits_80 : decode cX12_digits 80 = .ok (.iload_n 3, 1) := by decide +kernel
theorem dX12_digits_81 : decode cX12_digits 81 = .ok (.ireturn, 1) := by decide +kernel
theorem dX12_digits_82 : decode cX12_digits 82 = .ok (.iinc 3 1, 3) := by decide +kernel
theorem dX12_digits_85 : decode cX12_digits 85 = .ok (.goto (-52), 3) := by decide +kernel
theorem dX12_digits_88 : decode cX12_digits 88 = .ok (.bipush (-2), 2) := by decide +kernel
theorem dX12_digits_90 : decode cX12_digits 90 = .ok (.ireturn, 1) := by decide +kernel
theorem dX12_takeLeast_0 : decode cX12_takeLeast 0 = .ok (.iconst 0, 1) := by decide +kernel
theorem dX12_takeLeast_1 : decode cX12_takeLeast 1 = .ok (.istore_n 1, 1) := by decide +kernel
theorem dX12_takeLeast_2 : decode cX12_takeLeast 2 = .ok (.iconst 1, 1) := by decide +kernel
theorem dX12_takeLeast_3 : decode cX12_takeLeast 3 = .ok (.istore_n 2, 1) := by decide +kernel
theorem dX12_takeLeast_4 : decode cX12_takeLeast 4 = .ok (.iload_n 2, 1) := by decide +kernel
theorem dX12_takeLeast_5 : decode cX12_takeLeast 5 = .ok (.aload_n 0, 1) := by decide +kernel
theorem dX12_takeLeast_6 : decode cX12_takeLeast 6 = .ok (.getfield 146, 3) := by decide +kernel
theorem dX12_takeLeast_9 : decode cX12_takeLeast 9 = .ok (.if_icmp .ge 30, 3) := by decide +kernel
theorem dX12_takeLeast_12 : decode cX12_takeLeast 12 = .ok (.aload_n 0, 1) := by decide +kernel
theorem dX12_takeLeast_13 : decode cX12_takeLeast 13 = .ok (.getfield 25, 3) := by decide +kernel
theorem dX12_takeLeast_16 : decode cX12_takeLeast 16 = .ok (.iload_n 2, 1) := by decide +kernel
theorem dX12_takeLeast_17 : decode cX12_takeLeast 17 = .ok (.iaload, 1) := by decide +kernel
theorem dX12_takeLeast_18 : decode cX12_takeLeast 18 = .ok (.aload_n 0, 1) := by decide +kernel
theorem dX12_takeLeast_19 : decode cX12_takeLeast 19 = .ok (.getfield 25, 3) := by decide +kernel
theorem dX12_takeLeast_22 : decode cX12_takeLeast 22 = .ok (.iload_n 1, 1) := by decide +kernel
theorem dX12_takeLeast_23 : decode cX12_takeLeast 23 = .ok (.iaload, 1) := by decide +kernel
theorem dX12_takeLeast_24 : decode cX12_takeLeast 24 = .ok (.if_icmp .ge 7, 3) := by decide +kernel
theorem dX12_takeLeast_27 : decode cX12_takeLeast 27 = .ok (.iload_n 2, 1) := by decide +kernel
theorem dX12_takeLeast_28 : decode cX12_takeLeast 28 = .ok (.goto 4, 3) := by decide +kernel
theorem dX12_takeLeast_31 : decode cX12_takeLeast 31 = .ok (.iload_n 1, 1) := by decide +kernel
theorem dX12_takeLeast_32 : decode cX12_takeLeast 32 = .ok (.istore_n 1, 1) := by decide +kernel
theorem dX12_takeLeast_33 : decode cX12_takeLeast 33 = .ok (.iinc 2 1, 3) := by decide +kernel
theorem dX12_takeLeast_36 : decode cX12_takeLeast 36 = .ok (.goto (-32), 3) := by decide +kernel
theorem dX12_takeLeast_39 : decode cX12_takeLeast 39 = .ok (.aload_n 0, 1) := by decide +kernel
theorem dX12_takeLeast_40 : decode cX12_takeLeast 40 = .ok (.aload_n 0, 1) := by decide +kernel
theorem dX12_takeLeast_41 : decode cX12_takeLeast 41 = .ok (.getfield 25, 3) := by decide +kernel
theorem dX12_takeLeast_44 : decode cX12_takeLeast 44 = .ok (.iload_n 1, 1) := by decide +kernel
theorem dX12_takeLeast_45 : decode cX12_takeLeast 45 = .ok (.iaload, 1) := by decide +kernel
theorem dX12_takeLeast_46 : decode cX12_takeLeast 46 = .ok (.putfield 149, 3) := by decide +kernel
theorem dX12_takeLeast_49 : decode cX12_takeLeast 49 = .ok (.aload_n 0, 1) := by decide +kernel
theorem dX12_takeLeast_50 : decode cX12_takeLeast 50 = .ok (.getfield 28, 3) := by decide +kernel
theorem dX12_takeLeast_53 : decode cX12_takeLeast 53 = .ok (.iload_n 1, 1) := by decide +kernel
theorem dX12_takeLeast_54 : decode cX12_takeLeast 54 = .ok (.iaload, 1) := by decide +kernel
theorem dX12_takeLeast_55 : decode cX12_takeLeast 55 = .ok (.istore_n 2, 1) := by decide +kernel
theorem dX12_takeLeast_56 : decode cX12_takeLeast 56 = .ok (.aload_n 0, 1) := by decide +kernel
theorem dX12_takeLeast_57 : decode cX12_takeLeast 57 = .ok (.dup, 1) := by decide +kernel
theorem dX12_takeLeast_58 : decode cX12_takeLeast 58 = .ok (.getfield 146, 3) := by decide +kernel
theorem dX12_takeLeast_61 : decode cX12_takeLeast 61 = .ok (.iconst 1, 1) := by decide +kernel
theorem dX12_takeLeast_62 : decode cX12_takeLeast 62 = .ok (.isub, 1) := by decide +kernel
theorem dX12_takeLeast_63 : decode cX12_takeLeast 63 = .ok (.putfield 146, 3) := by decide +kernel
theorem dX12_takeLeast_66 : decode cX12_takeLeast 66 = .ok (.iload_n 1, 1) := by decide +kernel
theorem dX12_takeLeast_67 : decode cX12_takeLeast 67 = .ok (.istore_n 3, 1) := by decide +kernel
theorem dX12_takeLeast_68 : decode cX12_takeLeast 68 = .ok (.iload_n 3, 1) := by decide +kernel
theorem dX12_takeLeast_69 : decode cX12_takeLeast 69 = .ok (.aload_n 0, 1) := by decide +kernel
theorem dX12_takeLeast_70 : decode cX12_takeLeast 70 = .ok (.getfield 146, 3) := by decide +kernel
theorem dX12_takeLeast_73 : decode cX12_takeLeast 73 = .ok (.if_icmp .ge 37, 3) := by decide +kernel
theorem dX12_takeLeast_76 : decode cX12_takeLeast 76 = .ok (.aload_n 0, 1) := by decide +kernel
theorem dX12_takeLeast_77 : decode cX12_takeLeast 77 = .ok (.getfield 25, 3) := by decide +kernel
theorem dX12_takeLeast_80 : decode cX12_takeLeast 80 = .ok (.iload_n 3, 1) := by decide +kernel
theorem dX12_takeLeast_81 : decode cX12_takeLeast 81 = .ok (.aload_n 0, 1) := by decide +kernel
theorem dX12_takeLeast_82 : decode cX12_takeLeast 82 = .ok (.getfield 25, 3) := by decide +kernel
theorem dX12_takeLeast_85 : decode cX12_takeLeast 85 = .ok (.iload_n 3, 1) := by decide +kernel
theorem dX12_takeLeast_86 : decode cX12_takeLeast 86 = .ok (.iconst 1, 1) := by decide +kernel
theorem dX12_takeLeast_87 : decode cX12_takeLeast 87 = .ok (.iadd, 1) := by decide +kernel
theorem dX12_takeLeast_88 : decode cX12_takeLeast 88 = .ok (.iaload, 1) := by decide +kernel
theorem dX12_takeLeast_89 : decode cX12_takeLeast 89 = .ok (.iastore, 1) := by decide +kernel
theorem dX12_takeLeast_90 : decode cX12_takeLeast 90 = .ok (.aload_n 0, 1) := by decide +kernel
theorem dX12_takeLeast_91 : decode cX12_takeLeast 91 = .ok (.getfield 28, 3) := by decide +kernel
theorem dX12_takeLeast_94 : decode cX12_takeLeast 94 = .ok (.iload_n 3, 1) := by decide +kernel
theorem dX12_takeLeast_95 : decode cX12_takeLeast 95 = .ok (.aload_n 0, 1) := by decide +kernel
theorem dX12_takeLeast_96 : decode cX12_takeLeast 96 = .ok (.getfield 28, 3) := by decide +kernel
theorem dX12_takeLeast_99 : decode cX12_takeLeast 99 = .ok (.iload_n 3, 1) := by decide +kernel
theorem dX12_takeLeast_100 : decode cX12_takeLeast 100 = .ok (.iconst 1, 1) := by decide +kernel
theorem dX12_takeLeast_101 : decode cX12_takeLeast 101 = .ok (.iadd, 1) := by decide +kernel
theorem dX12_takeLeast_102 : decode cX12_takeLeast 102 = .ok (.iaload, 1) := by decide +kernel
theorem dX12_takeLeast_103 : decode cX12_takeLeast 103 = .ok (.iastore, 1) := by decide +kernel
theorem dX12_takeLeast_104 : decode cX12_takeLeast 104 = .ok (.iinc 3 1, 3) := by decide +kernel
theorem dX12_takeLeast_107 : decode cX12_takeLeast 107 = .ok (.goto (-39), 3) := by decide +kernel
theorem dX12_takeLeast_110 : decode cX12_takeLeast 110 = .ok (.iload_n 2, 1) := by decide +kernel
theorem dX12_takeLeast_111 : decode cX12_takeLeast 111 = .ok (.ireturn, 1) := by decide +kernel
theorem dX12_findWords_0 : decode cX12_findWords 0 = .ok (.aload_n 0, 1) := by decide +kernel
theorem dX12_findWords_1 : decode cX12_findWords 1 = .ok (.iconst 0, 1) := by decide +kernel
theorem dX12_findWords_2 : decode cX12_findWords 2 = .ok (.putfield 146, 3) := by decide +kernel
theorem dX12_findWords_5 : decode cX12_findWords 5 = .ok (.iconst 0, 1) := by decide +kernel
theorem dX12_findWords_6 : decode cX12_findWords 6 = .ok (.istore_n 1, 1) := by decide +kernel
theorem dX12_findWords_7 : decode cX12_findWords 7 = .ok (.iload_n 1, 1) := by decide +kernel
theorem dX12_findWords_8 : decode cX12_findWords 8 = .ok (.bipush 16, 2) := by decide +kernel
theorem dX12_findWords_10 : decode cX12_findWords 10 = .ok (.if_icmp .ge 62, 3) := by decide +kernel
theorem dX12_findWords_13 : decode cX12_findWords 13 = .ok (.aload_n 0, 1) := by decide +kernel
theorem dX12_findWords_14 : decode cX12_findWords 14 = .ok (.getfield 31, 3) := by decide +kernel
theorem dX12_findWords_17 : decode cX12_findWords 17 = .ok (.iload_n 1, 1) := by decide +kernel
theorem dX12_findWords_18 : decode cX12_findWords 18 = .ok (.iconst 0, 1) := by decide +kernel
theorem dX12_findWords_19 : decode cX12_findWords 19 = .ok (.iastore, 1) := by decide +kernel
theorem dX12_findWords_20 : decode cX12_findWords 20 = .ok (.aload_n 0, 1) := by decide +kernel
theorem dX12_findWords_21 : decode cX12_findWords 21 = .ok (.iload_n 1, 1) := by decide +kernel
theorem dX12_findWords_22 : decode cX12_findWords 22 = .ok (.aload_n 0, 1) := by decide +kernel
theorem dX12_findWords_23 : decode cX12_findWords 23 = .ok (.getfield 72, 3) := by decide +kernel
theorem dX12_findWords_26 : decode cX12_findWords 26 = .ok (.invokevirtual 125, 3) := by decide +kernel
theorem dX12_findWords_29 : decode cX12_findWords 29 = .ok (.istore_n 2, 1) := by decide +kernel
theorem dX12_findWords_30 : decode cX12_findWords 30 = .ok (.iload_n 2, 1) := by decide +kernel
theorem dX12_findWords_31 : decode cX12_findWords 31 = .ok (.ifCond .le 35, 3) := by decide +kernel
theorem dX12_findWords_34 : decode cX12_findWords 34 = .ok (.aload_n 0, 1) := by decide +kernel
theorem dX12_findWords_35 : decode cX12_findWords 35 = .ok (.getfield 25, 3) := by decide +kernel
theorem dX12_findWords_38 : decode cX12_findWords 38 = .ok (.aload_n 0, 1) := by decide +kernel
theorem dX12_findWords_39 : decode cX12_findWords 39 = .ok (.getfield 146, 3) := by decide +kernel
theorem dX12_findWords_42 : decode cX12_findWords 42 = .ok (.iload_n 2, 1) := by decide +kernel
theorem dX12_findWords_43 : decode cX12_findWords 43 = .ok (.iastore, 1) := by decide +kernel
theorem dX12_findWords_44 : decode cX12_findWords 44 = .ok (.aload_n 0, 1) := by decide +kernel
theorem dX12_findWords_45 : decode cX12_findWords 45 = .ok (.getfield 28, 3) := by decide +kernel
theorem dX12_findWords_48 : decode cX12_findWords 48 = .ok (.aload_n 0, 1) := by decide +kernel
theorem dX12_findWords_49 : decode cX12_findWords 49 = .ok (.getfield 146, 3) := by decide +kernel
theorem dX12_findWords_52 : decode cX12_findWords 52 = .ok (.iconst 1, 1) := by decide +kernel
theorem dX12_findWords_53 : decode cX12_findWords 53 = .ok (.iload_n 1, 1) := by decide +kernel
theorem dX12_findWords_54 : decode cX12_findWords 54 = .ok (.ishl, 1) := by decide +kernel
theorem dX12_findWords_55 : decode cX12_findWords 55 = .ok (.iastore, 1) := by decide +kernel
theorem dX12_findWords_56 : decode cX12_findWords 56 = .ok (.aload_n 0, 1) := by decide +kernel
theorem dX12_findWords_57 : decode cX12_findWords 57 = .ok (.dup, 1) := by decide +kernel
theorem dX12_findWords_58 : decode cX12_findWords 58 = .ok (.getfield 146, 3) := by decide +kernel
theorem dX12_findWords_61 : decode cX12_findWords 61 = .ok (.iconst 1, 1) := by decide +kernel
theorem dX12_findWords_62 : decode cX12_findWords 62 = .ok (.iadd, 1) := by decide +kernel
theorem dX12_findWords_63 : decode cX12_findWords 63 = .ok (.putfield 146, 3) := by decide +kernel
theorem dX12_findWords_66 : decode cX12_findWords 66 = .ok (.iinc 1 1, 3) := by decide +kernel
theorem dX12_findWords_69 : decode cX12_findWords 69 = .ok (.goto (-62), 3) := by decide +kernel
theorem dX12_findWords_72 : decode cX12_findWords 72 = .ok (.aload_n 0, 1) := by decide +kernel
theorem dX12_findWords_73 : decode cX12_findWords 73 = .ok (.getfield 146, 3) := by decide +kernel
theorem dX12_findWords_76 : decode cX12_findWords 76 = .ok (.iconst 1, 1) := by decide +kernel
theorem dX12_findWords_77 : decode cX12_findWords 77 = .ok (.if_icmp .ne 33, 3) := by decide +kernel
theorem dX12_findWords_80 : decode cX12_findWords 80 = .ok (.iconst 0, 1) := by decide +kernel
theorem dX12_findWords_81 : decode cX12_findWords 81 = .ok (.istore_n 1, 1) := by decide +kernel
theorem dX12_findWords_82 : decode cX12_findWords 82 = .ok (.iload_n 1, 1) := by decide +kernel
theorem dX12_findWords_83 : decode cX12_findWords 83 = .ok (.bipush 16, 2) := by decide +kernel
theorem dX12_findWords_85 : decode cX12_findWords 85 = .ok (.if_icmp .ge 25, 3) := by decide +kernel
theorem dX12_findWords_88 : decode cX12_findWords 88 = .ok (.aload_n 0, 1) := by decide +kernel
theorem dX12_findWords_89 : decode cX12_findWords 89 = .ok (.getfield 31, 3) := by decide +kernel
theorem dX12_findWords_92 : decode cX12_findWords 92 = .ok (.iload_n 1, 1) := by decide +kernel
theorem dX12_findWords_93 : decode cX12_findWords 93 = .ok (.aload_n 0, 1) := by decide +kernel
theorem dX12_findWords_94 : decode cX12_findWords 94 = .ok (.getfield 28, 3) := by decide +kernel
theorem dX12_findWords_97 : decode cX12_findWords 97 = .ok (.iconst 0, 1) := by decide +kernel
theorem dX12_findWords_98 : decode cX12_findWords 98 = .ok (.iaload, 1) := by decide +kernel
theorem dX12_findWords_99 : decode cX12_findWords 99 = .ok (.iload_n 1, 1) := by decide +kernel
theorem dX12_findWords_100 : decode cX12_findWords 100 = .ok (.ishr, 1) := by decide +kernel
theorem dX12_findWords_101 : decode cX12_findWords 101 = .ok (.iconst 1, 1) := by decide +kernel
theorem dX12_findWords_102 : decode cX12_findWords 102 = .ok (.iand, 1) := by decide +kernel
theorem dX12_findWords_103 : decode cX12_findWords 103 = .ok (.iastore, 1) := by decide +kernel
theorem dX12_findWords_104 : decode cX12_findWords 104 = .ok (.iinc 1 1, 3) := by decide +kernel
theorem dX12_findWords_107 : decode cX12_findWords 107 = .ok (.goto (-25), 3) := by decide +kernel
theorem dX12_findWords_110 : decode cX12_findWords 110 = .ok (.aload_n 0, 1) := by decide +kernel
theorem dX12_findWords_111 : decode cX12_findWords 111 = .ok (.getfield 146, 3) := by decide +kernel
theorem dX12_findWords_114 : decode cX12_findWords 114 = .ok (.iconst 1, 1) := by decide +kernel
theorem dX12_findWords_115 : decode cX12_findWords 115 = .ok (.if_icmp .le 88, 3) := by decide +kernel
theorem dX12_findWords_118 : decode cX12_findWords 118 = .ok (.aload_n 0, 1) := by decide +kernel
theorem dX12_findWords_119 : decode cX12_findWords 119 = .ok (.invokevirtual 152, 3) := by decide +kernel
theorem dX12_findWords_122 : decode cX12_findWords 122 = .ok (.istore_n 1, 1) := by decide +kernel
theorem dX12_findWords_123 : decode cX12_findWords 123 = .ok (.aload_n 0, 1) := by decide +kernel
theorem dX12_findWords_124 : decode cX12_findWords 124 = .ok (.getfield 149, 3) := by decide +kernel
theorem dX12_findWords_127 : decode cX12_findWords 127 = .ok (.istore_n 2, 1) := by decide +kernel
theorem dX12_findWords_128 : decode cX12_findWords 128 = .ok (.iload_n 1, 1) := by decide +kernel
theorem dX12_findWords_129 : decode cX12_findWords 129 = .ok (.aload_n 0, 1) := by decide +kernel
theorem dX12_findWords_130 : decode cX12_findWords 130 = .ok (.invokevirtual 152, 3) := by decide +kernel
theorem dX12_findWords_133 : decode cX12_findWords 133 = .ok (.ior, 1) := by decide +kernel
theorem dX12_findWords_134 : decode cX12_findWords 134 = .ok (.istore_n 1, 1) := by decide +kernel
theorem dX12_findWords_135 : decode cX12_findWords 135 = .ok (.iload_n 2, 1) := by decide +kernel
theorem dX12_findWords_136 : decode cX12_findWords 136 = .ok (.aload_n 0, 1) := by decide +kernel
theorem dX12_findWords_137 : decode cX12_findWords 137 = .ok (.getfield 149, 3) := by decide +kernel
theorem dX12_findWords_140 : decode cX12_findWords 140 = .ok (.iadd, 1) := by decide +kernel
theorem dX12_findWords_141 : decode cX12_findWords 141 = .ok (.istore_n 2, 1) := by decide +kernel
theorem dX12_findWords_142 : decode cX12_findWords 142 = .ok (.aload_n 0, 1) := by decide +kernel
theorem dX12_findWords_143 : decode cX12_findWords 143 = .ok (.getfield 25, 3) := by decide +kernel
theorem dX12_findWords_146 : decode cX12_findWords 146 = .ok (.aload_n 0, 1) := by decide +kernel
theorem dX12_findWords_147 : decode cX12_findWords 147 = .ok (.getfield 146, 3) := by decide +kernel
theorem dX12_findWords_150 : decode cX12_findWords 150 = .ok (.iload_n 2, 1) := by decide +kernel
theorem dX12_findWords_151 : decode cX12_findWords 151 = .ok (.iastore, 1) := by decide +kernel
theorem dX12_findWords_152 : decode cX12_findWords 152 = .ok (.aload_n 0, 1) := by decide +kernel
theorem dX12_findWords_153 : decode cX12_findWords 153 = .ok (.getfield 28, 3) := by decide +kernel
theorem dX12_findWords_156 : decode cX12_findWords 156 = .ok (.aload_n 0, 1) := by decide +kernel
theorem dX12_findWords_157 : decode cX12_findWords 157 = .ok (.getfield 146, 3) := by decide +kernel
theorem dX12_findWords_160 : decode cX12_findWords 160 = .ok (.iload_n 1, 1) := by decide +kernel
theorem dX12_findWords_161 : decode cX12_findWords 161 = .ok (.iastore, 1) := by decide +kernel
theorem dX12_findWords_162 : decode cX12_findWords 162 = .ok (.aload_n 0, 1) := by decide +kernel
theorem dX12_findWords_163 : decode cX12_findWords 163 = .ok (.dup, 1) := by decide +kernel
theorem dX12_findWords_164 : decode cX12_findWords 164 = .ok (.getfield 146, 3) := by decide +kernel
theorem dX12_findWords_167 : decode cX12_findWords 167 = .ok (.iconst 1, 1) := by decide +kernel
theorem dX12_findWords_168 : decode cX12_findWords 168 = .ok (.iadd, 1) := by decide +kernel
theorem dX12_findWords_169 : decode cX12_findWords 169 = .ok (.putfield 146, 3) := by decide +kernel
theorem dX12_findWords_172 : decode cX12_findWords 172 = .ok (.iconst 0, 1) := by decide +kernel
theorem dX12_findWords_173 : decode cX12_findWords 173 = .ok (.istore_n 3, 1) := by decide +kernel
theorem dX12_findWords_174 : decode cX12_findWords 174 = .ok (.iload_n 3, 1) := by decide +kernel
theorem dX12_findWords_175 : decode cX12_findWords 175 = .ok (.bipush 16, 2) := by decide +kernel
theorem dX12_findWords_177 : decode cX12_findWords 177 = .ok (.if_icmp .ge 23, 3) := by decide +kernel
theorem dX12_findWords_180 : decode cX12_findWords 180 = .ok (.aload_n 0, 1) := by decide +kernel
theorem dX12_findWords_181 : decode cX12_findWords 181 = .ok (.getfield 31, 3) := by decide +kernel
theorem dX12_findWords_184 : decode cX12_findWords 184 = .ok (.iload_n 3, 1) := by decide +kernel
theorem dX12_findWords_185 : decode cX12_findWords 185 = .ok (.dup2, 1) := by decide +kernel
theorem dX12_findWords_186 : decode cX12_findWords 186 = .ok (.iaload, 1) := by decide +kernel
theorem dX12_findWords_187 : decode cX12_findWords 187 = .ok (.iload_n 1, 1) := by decide +kernel
theorem dX12_findWords_188 : decode cX12_findWords 188 = .ok (.iload_n 3, 1) := by decide +kernel
theorem dX12_findWords_189 : decode cX12_findWords 189 = .ok (.ishr, 1) := by decide +kernel
theorem dX12_findWords_190 : decode cX12_findWords 190 = .ok (.iconst 1, 1) := by decide +kernel
theorem dX12_findWords_191 : decode cX12_findWords 191 = .ok (.iand, 1) := by decide +kernel
theorem dX12_findWords_192 : decode cX12_findWords 192 = .ok (.iadd, 1) := by decide +kernel
theorem dX12_findWords_193 : decode cX12_findWords 193 = .ok (.iastore, 1) := by decide +kernel
theorem dX12_findWords_194 : decode cX12_findWords 194 = .ok (.iinc 3 1, 3) := by decide +kernel
theorem dX12_findWords_197 : decode cX12_findWords 197 = .ok (.goto (-23), 3) := by decide +kernel
theorem dX12_findWords_200 : decode cX12_findWords 200 = .ok (.goto (-90), 3) := by decide +kernel
theorem dX12_findWords_203 : decode cX12_findWords 203 = .ok (.return_, 1) := by decide +kernel
theorem dX12_stepWidth_0 : decode cX12_stepWidth 0 = .ok (.aload_n 0, 1) := by decide +kernel
theorem dX12_stepWidth_1 : decode cX12_stepWidth 1 = .ok (.iload_n 1, 1) := by decide +kernel
theorem dX12_stepWidth_2 : decode cX12_stepWidth 2 = .ok (.aload_n 0, 1) := by decide +kernel
theorem dX12_stepWidth_3 : decode cX12_stepWidth 3 = .ok (.getfield 72, 3) := by decide +kernel
theorem dX12_stepWidth_6 : decode cX12_stepWidth 6 = .ok (.invokevirtual 125, 3) := by decide +kernel
theorem dX12_stepWidth_9 : decode cX12_stepWidth 9 = .ok (.i2l, 1) := by decide +kernel
theorem dX12_stepWidth_10 : decode cX12_stepWidth 10 = .ok (.lstore_n 2, 1) := by decide +kernel
theorem dX12_stepWidth_11 : decode cX12_stepWidth 11 = .ok (.iconst 0, 1) := by decide +kernel
theorem dX12_stepWidth_12 : decode cX12_stepWidth 12 = .ok (.istore 4, 2) := by decide +kernel
theorem dX12_stepWidth_14 : decode cX12_stepWidth 14 = .ok (.lload_n 2, 1) := by decide +kernel
theorem dX12_stepWidth_15 : decode cX12_stepWidth 15 = .ok (.lconst 0, 1) := by decide +kernel
theorem dX12_stepWidth_16 : decode cX12_stepWidth 16 = .ok (.lcmp, 1) := by decide +kernel
theorem dX12_stepWidth_17 : decode cX12_stepWidth 17 = .ok (.ifCond .le 22, 3) := by decide +kernel
theorem dX12_stepWidth_20 : decode cX12_stepWidth 20 = .ok (.lload_n 2, 1) := by decide +kernel
theorem dX12_stepWidth_21 : decode cX12_stepWidth 21 = .ok (.iload 4, 2) := by decide +kernel
theorem dX12_stepWidth_23 : decode cX12_stepWidth 23 = .ok (.lshl, 1) := by decide +kernel
theorem dX12_stepWidth_24 : decode cX12_stepWidth 24 = .ok (.aload_n 0, 1) := by decide +kernel
theorem dX12_stepWidth_25 : decode cX12_stepWidth 25 = .ok (.getfield 72, 3) := by decide +kernel
theorem dX12_stepWidth_28 : decode cX12_stepWidth 28 = .ok (.i2l, 1) := by decide +kernel
theorem dX12_stepWidth_29 : decode cX12_stepWidth 29 = .ok (.lcmp, 1) := by decide +kernel
theorem dX12_stepWidth_30 : decode cX12_stepWidth 30 = .ok (.ifCond .ge 9, 3) := by decide +kernel
theorem dX12_stepWidth_33 : decode cX12_stepWidth 33 = .ok (.iinc 4 1, 3) := by decide +kernel
theorem dX12_stepWidth_36 : decode cX12_stepWidth 36 = .ok (.goto (-22), 3) := by decide +kernel
theorem dX12_stepWidth_39 : decode cX12_stepWidth 39 = .ok (.iload 4, 2) := by decide +kernel
theorem dX12_stepWidth_41 : decode cX12_stepWidth 41 = .ok (.ireturn, 1) := by decide +kernel
theorem dX12_width_0 : decode cX12_width 0 = .ok (.aload_n 0, 1) := by decide +kernel
theorem dX12_width_1 : decode cX12_width 1 = .ok (.iconst 0, 1) := by decide +kernel
theorem dX12_width_2 : decode cX12_width 2 = .ok (.putfield 59, 3) := by decide +kernel
theorem dX12_width_5 : decode cX12_width 5 = .ok (.iload_n 1, 1) := by decide +kernel
theorem dX12_width_6 : decode cX12_width 6 = .ok (.invokestatic 155, 3) := by decide +kernel
theorem dX12_width_9 : decode cX12_width 9 = .ok (.ifCond .eq 10, 3) := by decide +kernel
theorem dX12_width_12 : decode cX12_width 12 = .ok (.iload_n 2, 1) := by decide +kernel
theorem dX12_width_13 : decode cX12_width 13 = .ok (.invokestatic 68, 3) := by decide +kernel
theorem dX12_width_16 : decode cX12_width 16 = .ok (.ifCond .ne 5, 3) := by decide +kernel
theorem dX12_width_19 : decode cX12_width 19 = .ok (.iconst (-1), 1) := by decide +kernel
theorem dX12_width_20 : decode cX12_width 20 = .ok (.ireturn, 1) := by decide +kernel
theorem dX12_width_21 : decode cX12_width 21 = .ok (.aload_n 0, 1) := by decide +kernel
theorem dX12_width_22 : decode cX12_width 22 = .ok (.invokevirtual 158, 3) := by decide +kernel
theorem dX12_width_25 : decode cX12_width 25 = .ok (.iload_n 1, 1) := by decide +kernel
theorem dX12_width_26 : decode cX12_width 26 = .ok (.ifCond .ne 12, 3) := by decide +kernel
theorem dX12_width_29 : decode cX12_width 29 = .ok (.aload_n 0, 1) := by decide +kernel
theorem dX12_width_30 : decode cX12_width 30 = .ok (.getfield 31, 3) := by decide +kernel
theorem dX12_width_33 : decode cX12_width 33 = .ok (.iload_n 2, 1) := by decide +kernel
theorem dX12_width_34 : decode cX12_width 34 = .ok (.iaload, 1) := by decide +kernel
theorem dX12_width_35 : decode cX12_width 35 = .ok (.goto 8, 3) := by decide +kernel
theorem dX12_width_38 : decode cX12_width 38 = .ok (.aload_n 0, 1) := by decide +kernel
theorem dX12_width_39 : decode cX12_width 39 = .ok (.iload_n 2, 1) := by decide +kernel
theorem dX12_width_40 : decode cX12_width 40 = .ok (.invokevirtual 161, 3) := by decide +kernel
theorem dX12_width_43 : decode cX12_width 43 = .ok (.ireturn, 1) := by decide +kernel
theorem dX12_bits_0 : decode cX12_bits 0 = .ok (.aload_n 0, 1) := by decide +kernel
theorem dX12_bits_1 : decode cX12_bits 1 = .ok (.iconst 0, 1) := by decide +kernel
theorem dX12_bits_2 : decode cX12_bits 2 = .ok (.putfield 59, 3) := by decide +kernel
theorem dX12_bits_5 : decode cX12_bits 5 = .ok (.iload_n 1, 1) := by decide +kernel
theorem dX12_bits_6 : decode cX12_bits 6 = .ok (.invokestatic 155, 3) := by decide +kernel
theorem dX12_bits_9 : decode cX12_bits 9 = .ok (.ifCond .ne 5, 3) := by decide +kernel
theorem dX12_bits_12 : decode cX12_bits 12 = .ok (.iconst (-1), 1) := by decide +kernel
theorem dX12_bits_13 : decode cX12_bits 13 = .ok (.ireturn, 1) := by decide +kernel
theorem dX12_bits_14 : decode cX12_bits 14 = .ok (.aload_n 0, 1) := by decide +kernel
theorem dX12_bits_15 : decode cX12_bits 15 = .ok (.invokevirtual 158, 3) := by decide +kernel
theorem dX12_bits_18 : decode cX12_bits 18 = .ok (.iconst 0, 1) := by decide +kernel
theorem dX12_bits_19 : decode cX12_bits 19 = .ok (.istore_n 2, 1) := by decide +kernel
theorem dX12_bits_20 : decode cX12_bits 20 = .ok (.iconst 0, 1) := by decide +kernel
theorem dX12_bits_21 : decode cX12_bits 21 = .ok (.istore_n 3, 1) := by decide +kernel
theorem dX12_bits_22 : decode cX12_bits 22 = .ok (.iload_n 3, 1) := by decide +kernel
theorem dX12_bits_23 : decode cX12_bits 23 = .ok (.bipush 16, 2) := by decide +kernel
theorem dX12_bits_25 : decode cX12_bits 25 = .ok (.if_icmp .ge 40, 3) := by decide +kernel
theorem dX12_bits_28 : decode cX12_bits 28 = .ok (.iload_n 2, 1) := by decide +kernel
theorem dX12_bits_29 : decode cX12_bits 29 = .ok (.aload_n 0, 1) := by decide +kernel
theorem dX12_bits_30 : decode cX12_bits 30 = .ok (.iload_n 3, 1) := by decide +kernel
theorem dX12_bits_31 : decode cX12_bits 31 = .ok (.aload_n 0, 1) := by decide +kernel
theorem dX12_bits_32 : decode cX12_bits 32 = .ok (.getfield 72, 3) := by decide +kernel
theorem dX12_bits_35 : decode cX12_bits 35 = .ok (.invokevirtual 125, 3) := by decide +kernel
theorem dX12_bits_38 : decode cX12_bits 38 = .ok (.iload_n 1, 1) := by decide +kernel
theorem dX12_bits_39 : decode cX12_bits 39 = .ok (.ifCond .ne 12, 3) := by decide +kernel
theorem dX12_bits_42 : decode cX12_bits 42 = .ok (.aload_n 0, 1) := by decide +kernel
theorem dX12_bits_43 : decode cX12_bits 43 = .ok (.getfield 31, 3) := by decide +kernel
theorem dX12_bits_46 : decode cX12_bits 46 = .ok (.iload_n 3, 1) := by decide +kernel
theorem dX12_bits_47 : decode cX12_bits 47 = .ok (.iaload, 1) := by decide +kernel
theorem dX12_bits_48 : decode cX12_bits 48 = .ok (.goto 8, 3) := by decide +kernel
theorem dX12_bits_51 : decode cX12_bits 51 = .ok (.aload_n 0, 1) := by decide +kernel
theorem dX12_bits_52 : decode cX12_bits 52 = .ok (.iload_n 3, 1) := by decide +kernel
theorem dX12_bits_53 : decode cX12_bits 53 = .ok (.invokevirtual 161, 3) := by decide +kernel
theorem dX12_bits_56 : decode cX12_bits 56 = .ok (.imul, 1) := by decide +kernel
theorem dX12_bits_57 : decode cX12_bits 57 = .ok (.iadd, 1) := by decide +kernel
theorem dX12_bits_58 : decode cX12_bits 58 = .ok (.istore_n 2, 1) := by decide +kernel
theorem dX12_bits_59 : decode cX12_bits 59 = .ok (.iinc 3 1, 3) := by decide +kernel
theorem dX12_bits_62 : decode cX12_bits 62 = .ok (.goto (-40), 3) := by decide +kernel
theorem dX12_bits_65 : decode cX12_bits 65 = .ok (.iload_n 2, 1) := by decide +kernel
theorem dX12_bits_66 : decode cX12_bits 66 = .ok (.ireturn, 1) := by decide +kernel
theorem dX12_alike_0 : decode cX12_alike 0 = .ok (.iconst 0, 1) := by decide +kernel
theorem dX12_alike_1 : decode cX12_alike 1 = .ok (.istore_n 3, 1) := by decide +kernel
theorem dX12_alike_2 : decode cX12_alike 2 = .ok (.iload_n 1, 1) := by decide +kernel
theorem dX12_alike_3 : decode cX12_alike 3 = .ok (.iload_n 3, 1) := by decide +kernel
theorem dX12_alike_4 : decode cX12_alike 4 = .ok (.iadd, 1) := by decide +kernel
theorem dX12_alike_5 : decode cX12_alike 5 = .ok (.aload_n 0, 1) := by decide +kernel
theorem dX12_alike_6 : decode cX12_alike 6 = .ok (.getfield 72, 3) := by decide +kernel
theorem dX12_alike_9 : decode cX12_alike 9 = .ok (.if_icmp .ge 28, 3) := by decide +kernel
theorem dX12_alike_12 : decode cX12_alike 12 = .ok (.aload_n 0, 1) := by decide +kernel
theorem dX12_alike_13 : decode cX12_alike 13 = .ok (.getfield 7, 3) := by decide +kernel
theorem dX12_alike_16 : decode cX12_alike 16 = .ok (.iload_n 1, 1) := by decide +kernel
theorem dX12_alike_17 : decode cX12_alike 17 = .ok (.iload_n 3, 1) := by decide +kernel
theorem dX12_alike_18 : decode cX12_alike 18 = .ok (.iadd, 1) := by decide +kernel
theorem dX12_alike_19 : decode cX12_alike 19 = .ok (.iaload, 1) := by decide +kernel
theorem dX12_alike_20 : decode cX12_alike 20 = .ok (.aload_n 0, 1) := by decide +kernel
theorem dX12_alike_21 : decode cX12_alike 21 = .ok (.getfield 7, 3) := by decide +kernel
theorem dX12_alike_24 : decode cX12_alike 24 = .ok (.iload_n 2, 1) := by decide +kernel
theorem dX12_alike_25 : decode cX12_alike 25 = .ok (.iload_n 3, 1) := by decide +kernel
theorem dX12_alike_26 : decode cX12_alike 26 = .ok (.iadd, 1) := by decide +kernel
theorem dX12_alike_27 : decode cX12_alike 27 = .ok (.iaload, 1) := by decide +kernel
theorem dX12_alike_28 : decode cX12_alike 28 = .ok (.if_icmp .ne 9, 3) := by decide +kernel
theorem dX12_alike_31 : decode cX12_alike 31 = .ok (.iinc 3 1, 3) := by decide +kernel
theorem dX12_alike_34 : decode cX12_alike 34 = .ok (.goto (-32), 3) := by decide +kernel
theorem dX12_alike_37 : decode cX12_alike 37 = .ok (.iload_n 3, 1) := by decide +kernel
theorem dX12_alike_38 : decode cX12_alike 38 = .ok (.ireturn, 1) := by decide +kernel
theorem dX12_put_0 : decode cX12_put 0 = .ok (.aload_n 0, 1) := by decide +kernel
theorem dX12_put_1 : decode cX12_put 1 = .ok (.getfield 34, 3) := by decide +kernel
theorem dX12_put_4 : decode cX12_put 4 = .ok (.aload_n 0, 1) := by decide +kernel
theorem dX12_put_5 : decode cX12_put 5 = .ok (.getfield 164, 3) := by decide +kernel
theorem dX12_put_8 : decode cX12_put 8 = .ok (.iload_n 1, 1) := by decide +kernel
theorem dX12_put_9 : decode cX12_put 9 = .ok (.iastore, 1) := by decide +kernel
theorem dX12_put_10 : decode cX12_put 10 = .ok (.aload_n 0, 1) := by decide +kernel
theorem dX12_put_11 : decode cX12_put 11 = .ok (.getfield 37, 3) := by decide +kernel
theorem dX12_put_14 : decode cX12_put 14 = .ok (.aload_n 0, 1) := by decide +kernel
theorem dX12_put_15 : decode cX12_put 15 = .ok (.getfield 164, 3) := by decide +kernel
theorem dX12_put_18 : decode cX12_put 18 = .ok (.iload_n 2, 1) := by decide +kernel
theorem dX12_put_19 : decode cX12_put 19 = .ok (.iastore, 1) := by decide +kernel
theorem dX12_put_20 : decode cX12_put 20 = .ok (.aload_n 0, 1) := by decide +kernel
theorem dX12_put_21 : decode cX12_put 21 = .ok (.getfield 40, 3) := by decide +kernel
theorem dX12_put_24 : decode cX12_put 24 = .ok (.aload_n 0, 1) := by decide +kernel
theorem dX12_put_25 : decode cX12_put 25 = .ok (.getfield 164, 3) := by decide +kernel
theorem dX12_put_28 : decode cX12_put 28 = .ok (.iload_n 3, 1) := by decide +kernel
theorem dX12_put_29 : decode cX12_put 29 = .ok (.iastore, 1) := by decide +kernel
theorem dX12_put_30 : decode cX12_put 30 = .ok (.aload_n 0, 1) := by decide +kernel
theorem dX12_put_31 : decode cX12_put 31 = .ok (.dup, 1) := by decide +kernel
theorem dX12_put_32 : decode cX12_put 32 = .ok (.getfield 164, 3) := by decide +kernel
theorem dX12_put_35 : decode cX12_put 35 = .ok (.iconst 1, 1) := by decide +kernel
theorem dX12_put_36 : decode cX12_put 36 = .ok (.iadd, 1) := by decide +kernel
theorem dX12_put_37 : decode cX12_put 37 = .ok (.putfield 164, 3) := by decide +kernel
theorem dX12_put_40 : decode cX12_put 40 = .ok (.return_, 1) := by decide +kernel
theorem dX12_findFactors_0 : decode cX12_findFactors 0 = .ok (.aload_n 0, 1) := by decide +kernel
theorem dX12_findFactors_1 : decode cX12_findFactors 1 = .ok (.iconst 0, 1) := by decide +kernel
theorem dX12_findFactors_2 : decode cX12_findFactors 2 = .ok (.putfield 164, 3) := by decide +kernel
theorem dX12_findFactors_5 : decode cX12_findFactors 5 = .ok (.iconst 0, 1) := by decide +kernel
theorem dX12_findFactors_6 : decode cX12_findFactors 6 = .ok (.istore_n 1, 1) := by decide +kernel
theorem dX12_findFactors_7 : decode cX12_findFactors 7 = .ok (.iload_n 1, 1) := by decide +kernel
theorem dX12_findFactors_8 : decode cX12_findFactors 8 = .ok (.aload_n 0, 1) := by decide +kernel
theorem dX12_findFactors_9 : decode cX12_findFactors 9 = .ok (.getfield 72, 3) := by decide +kernel
theorem dX12_findFactors_12 : decode cX12_findFactors 12 = .ok (.if_icmp .ge 88, 3) := by decide +kernel
theorem dX12_findFactors_15 : decode cX12_findFactors 15 = .ok (.iconst 0, 1) := by decide +kernel
theorem dX12_findFactors_16 : decode cX12_findFactors 16 = .ok (.istore_n 2, 1) := by decide +kernel
theorem dX12_findFactors_17 : decode cX12_findFactors 17 = .ok (.bipush (-2), 2) := by decide +kernel
theorem dX12_findFactors_19 : decode cX12_findFactors 19 = .ok (.istore_n 3, 1) := by decide +kernel
theorem dX12_findFactors_20 : decode cX12_findFactors 20 = .ok (.iconst 0, 1) := by decide +kernel
theorem dX12_findFactors_21 : decode cX12_findFactors 21 = .ok (.istore 4, 2) := by decide +kernel
theorem dX12_findFactors_23 : decode cX12_findFactors 23 = .ok (.iload 4, 2) := by decide +kernel
theorem dX12_findFactors_25 : decode cX12_findFactors 25 = .ok (.iload_n 1, 1) := by decide +kernel
theorem dX12_findFactors_26 : decode cX12_findFactors 26 = .ok (.if_icmp .ge 44, 3) := by decide +kernel
theorem dX12_findFactors_29 : decode cX12_findFactors 29 = .ok (.aload_n 0, 1) := by decide +kernel
theorem dX12_findFactors_30 : decode cX12_findFactors 30 = .ok (.iload_n 1, 1) := by decide +kernel
theorem dX12_findFactors_31 : decode cX12_findFactors 31 = .ok (.iload 4, 2) := by decide +kernel
theorem dX12_findFactors_33 : decode cX12_findFactors 33 = .ok (.invokevirtual 167, 3) := by decide +kernel
theorem dX12_findFactors_36 : decode cX12_findFactors 36 = .ok (.istore 5, 2) := by decide +kernel
theorem dX12_findFactors_38 : decode cX12_findFactors 38 = .ok (.iload 5, 2) := by decide +kernel
theorem dX12_findFactors_40 : decode cX12_findFactors 40 = .ok (.iload_n 2, 1) := by decide +kernel
theorem dX12_findFactors_41 : decode cX12_findFactors 41 = .ok (.if_icmp .le 8, 3) := by decide +kernel
theorem dX12_findFactors_44 : decode cX12_findFactors 44 = .ok (.iload 4, 2) := by decide +kernel
theorem dX12_findFactors_46 : decode cX12_findFactors 46 = .ok (.goto 4, 3) := by decide +kernel
theorem dX12_findFactors_49 : decode cX12_findFactors 49 = .ok (.iload_n 3, 1) := by decide +kernel
theorem dX12_findFactors_50 : decode cX12_findFactors 50 = .ok (.istore_n 3, 1) := by decide +kernel
theorem dX12_findFactors_51 : decode cX12_findFactors 51 = .ok (.iload 5, 2) := by decide +kernel
theorem dX12_findFactors_53 : decode cX12_findFactors 53 = .ok (.iload_n 2, 1) := by decide +kernel
theorem dX12_findFactors_54 : decode cX12_findFactors 54 = .ok (.if_icmp .le 8, 3) := by decide +kernel
theorem dX12_findFactors_57 : decode cX12_findFactors 57 = .ok (.iload 5, 2) := by decide +kernel
theorem dX12_findFactors_59 : decode cX12_findFactors 59 = .ok (.goto 4, 3) := by decide +kernel
theorem dX12_findFactors_62 : decode cX12_findFactors 62 = .ok (.iload_n 2, 1) := by decide +kernel
theorem dX12_findFactors_63 : decode cX12_findFactors 63 = .ok (.istore_n 2, 1) := by decide +kernel
theorem dX12_findFactors_64 : decode cX12_findFactors 64 = .ok (.iinc 4 1, 3) := by decide +kernel
theorem dX12_findFactors_67 : decode cX12_findFactors 67 = .ok (.goto (-44), 3) := by decide +kernel
theorem dX12_findFactors_70 : decode cX12_findFactors 70 = .ok (.aload_n 0, 1) := by decide +kernel
theorem dX12_findFactors_71 : decode cX12_findFactors 71 = .ok (.iload_n 1, 1) := by decide +kernel
theorem dX12_findFactors_72 : decode cX12_findFactors 72 = .ok (.iload_n 2, 1) := by decide +kernel
theorem dX12_findFactors_73 : decode cX12_findFactors 73 = .ok (.ifCond .ne 7, 3) := by decide +kernel
theorem dX12_findFactors_76 : decode cX12_findFactors 76 = .ok (.iconst 1, 1) := by decide +kernel
theorem dX12_findFactors_77 : decode cX12_findFactors 77 = .ok (.goto 4, 3) := by decide +kernel
theorem dX12_findFactors_80 : decode cX12_findFactors 80 = .ok (.iload_n 2, 1) := by decide +kernel
theorem dX12_findFactors_81 : decode cX12_findFactors 81 = .ok (.iload_n 3, 1) := by decide +kernel
theorem dX12_findFactors_82 : decode cX12_findFactors 82 = .ok (.invokevirtual 170, 3) := by decide +kernel
theorem dX12_findFactors_85 : decode cX12_findFactors 85 = .ok (.iload_n 1, 1) := by decide +kernel
theorem dX12_findFactors_86 : decode cX12_findFactors 86 = .ok (.iload_n 2, 1) := by decide +kernel
theorem dX12_findFactors_87 : decode cX12_findFactors 87 = .ok (.ifCond .ne 7, 3) := by decide +kernel
theorem dX12_findFactors_90 : decode cX12_findFactors 90 = .ok (.iconst 1, 1) := by decide +kernel
theorem dX12_findFactors_91 : decode cX12_findFactors 91 = .ok (.goto 4, 3) := by decide +kernel
theorem dX12_findFactors_94 : decode cX12_findFactors 94 = .ok (.iload_n 2, 1) := by decide +kernel
theorem dX12_findFactors_95 : decode cX12_findFactors 95 = .ok (.iadd, 1) := by decide +kernel
theorem dX12_findFactors_96 : decode cX12_findFactors 96 = .ok (.istore_n 1, 1) := by decide +kernel
theorem dX12_findFactors_97 : decode cX12_findFactors 97 = .ok (.goto (-90), 3) := by decide +kernel
theorem dX12_findFactors_100 : decode cX12_findFactors 100 = .ok (.return_, 1) := by decide +kernel
theorem dX12_phraseOf_0 : decode cX12_phraseOf 0 = .ok (.iconst 0, 1) := by decide +kernel
theorem dX12_phraseOf_1 : decode cX12_phraseOf 1 = .ok (.istore_n 3, 1) := by decide +kernel
theorem dX12_phraseOf_2 : decode cX12_phraseOf 2 = .ok (.iload_n 3, 1) := by decide +kernel
theorem dX12_phraseOf_3 : decode cX12_phraseOf 3 = .ok (.aload_n 0, 1) := by decide +kernel
theorem dX12_phraseOf_4 : decode cX12_phraseOf 4 = .ok (.getfield 164, 3) := by decide +kernel
theorem dX12_phraseOf_7 : decode cX12_phraseOf 7 = .ok (.if_icmp .ge 36, 3) := by decide +kernel
theorem dX12_phraseOf_10 : decode cX12_phraseOf 10 = .ok (.aload_n 0, 1) := by decide +kernel
theorem dX12_phraseOf_11 : decode cX12_phraseOf 11 = .ok (.getfield 37, 3) := by decide +kernel
theorem dX12_phraseOf_14 : decode cX12_phraseOf 14 = .ok (.iload_n 3, 1) := by decide +kernel
theorem dX12_phraseOf_15 : decode cX12_phraseOf 15 = .ok (.iaload, 1) := by decide +kernel
theorem dX12_phraseOf_16 : decode cX12_phraseOf 16 = .ok (.iload_n 2, 1) := by decide +kernel
theorem dX12_phraseOf_17 : decode cX12_phraseOf 17 = .ok (.if_icmp .ne 20, 3) := by decide +kernel
theorem dX12_phraseOf_20 : decode cX12_phraseOf 20 = .ok (.aload_n 0, 1) := by decide +kernel
theorem dX12_phraseOf_21 : decode cX12_phraseOf 21 = .ok (.iload_n 1, 1) := by decide +kernel
theorem dX12_phraseOf_22 : decode cX12_phraseOf 22 = .ok (.aload_n 0, 1) := by decide +kernel
theorem dX12_phraseOf_23 : decode cX12_phraseOf 23 = .ok (.getfield 34, 3) := by decide +kernel
theorem dX12_phraseOf_26 : decode cX12_phraseOf 26 = .ok (.iload_n 3, 1) := by decide +kernel
theorem dX12_phraseOf_27 : decode cX12_phraseOf 27 = .ok (.iaload, 1) := by decide +kernel
theorem dX12_phraseOf_28 : decode cX12_phraseOf 28 = .ok (.invokevirtual 167, 3) := by decide +kernel
theorem dX12_phraseOf_31 : decode cX12_phraseOf 31 = .ok (.iload_n 2, 1) := by decide +kernel
theorem dX12_phraseOf_32 : decode cX12_phraseOf 32 = .ok (.if_icmp .lt 5, 3) := by decide +kernel
theorem dX12_phraseOf_35 : decode cX12_phraseOf 35 = .ok (.iload_n 3, 1) := by decide +kernel
theorem dX12_phraseOf_36 : decode cX12_phraseOf 36 = .ok (.ireturn, 1) := by decide +kernel
theorem dX12_phraseOf_37 : decode cX12_phraseOf 37 = .ok (.iinc 3 1, 3) := by decide +kernel
theorem dX12_phraseOf_40 : decode cX12_phraseOf 40 = .ok (.goto (-38), 3) := by decide +kernel
theorem dX12_phraseOf_43 : decode cX12_phraseOf 43 = .ok (.bipush (-2), 2) := by decide +kernel
theorem dX12_phraseOf_45 : decode cX12_phraseOf 45 = .ok (.ireturn, 1) := by decide +kernel
theorem dX12_findPhrases_0 : decode cX12_findPhrases 0 = .ok (.aload_n 0, 1) := by decide +kernel
theorem dX12_findPhrases_1 : decode cX12_findPhrases 1 = .ok (.iconst 0, 1) := by decide +kernel
theorem dX12_findPhrases_2 : decode cX12_findPhrases 2 = .ok (.putfield 164, 3) := by decide +kernel
theorem dX12_findPhrases_5 : decode cX12_findPhrases 5 = .ok (.iconst 0, 1) := by decide +kernel
theorem dX12_findPhrases_6 : decode cX12_findPhrases 6 = .ok (.istore_n 1, 1) := by decide +kernel
theorem dX12_findPhrases_7 : decode cX12_findPhrases 7 = .ok (.iload_n 1, 1) := by decide +kernel
theorem dX12_findPhrases_8 : decode cX12_findPhrases 8 = .ok (.aload_n 0, 1) := by decide +kernel
theorem dX12_findPhrases_9 : decode cX12_findPhrases 9 = .ok (.getfield 72, 3) := by decide +kernel
theorem dX12_findPhrases_12 : decode cX12_findPhrases 12 = .ok (.if_icmp .ge 76, 3) := by decide +kernel
theorem dX12_findPhrases_15 : decode cX12_findPhrases 15 = .ok (.iconst 1, 1) := by decide +kernel
theorem dX12_findPhrases_16 : decode cX12_findPhrases 16 = .ok (.istore_n 2, 1) := by decide +kernel
theorem dX12_findPhrases_17 : decode cX12_findPhrases 17 = .ok (.bipush (-2), 2) := by decide +kernel
theorem dX12_findPhrases_19 : decode cX12_findPhrases 19 = .ok (.istore_n 3, 1) := by decide +kernel
theorem dX12_findPhrases_20 : decode cX12_findPhrases 20 = .ok (.aload_n 0, 1) := by decide +kernel
theorem dX12_findPhrases_21 : decode cX12_findPhrases 21 = .ok (.iload_n 1, 1) := by decide +kernel
theorem dX12_findPhrases_22 : decode cX12_findPhrases 22 = .ok (.iload_n 2, 1) := by decide +kernel
theorem dX12_findPhrases_23 : decode cX12_findPhrases 23 = .ok (.invokevirtual 174, 3) := by decide +kernel
theorem dX12_findPhrases_26 : decode cX12_findPhrases 26 = .ok (.istore 4, 2) := by decide +kernel
theorem dX12_findPhrases_28 : decode cX12_findPhrases 28 = .ok (.iload 4, 2) := by decide +kernel
theorem dX12_findPhrases_30 : decode cX12_findPhrases 30 = .ok (.bipush (-2), 2) := by decide +kernel
theorem dX12_findPhrases_32 : decode cX12_findPhrases 32 = .ok (.if_icmp .eq 30, 3) := by decide +kernel
theorem dX12_findPhrases_35 : decode cX12_findPhrases 35 = .ok (.iload_n 1, 1) := by decide +kernel
theorem dX12_findPhrases_36 : decode cX12_findPhrases 36 = .ok (.iload_n 2, 1) := by decide +kernel
theorem dX12_findPhrases_37 : decode cX12_findPhrases 37 = .ok (.iadd, 1) := by decide +kernel
theorem dX12_findPhrases_38 : decode cX12_findPhrases 38 = .ok (.aload_n 0, 1) := by decide +kernel
theorem dX12_findPhrases_39 : decode cX12_findPhrases 39 = .ok (.getfield 72, 3) := by decide +kernel
theorem dX12_findPhrases_42 : decode cX12_findPhrases 42 = .ok (.if_icmp .ge 20, 3) := by decide +kernel
theorem dX12_findPhrases_45 : decode cX12_findPhrases 45 = .ok (.iload 4, 2) := by decide +kernel
theorem dX12_findPhrases_47 : decode cX12_findPhrases 47 = .ok (.istore_n 3, 1) := by decide +kernel
theorem dX12_findPhrases_48 : decode cX12_findPhrases 48 = .ok (.iinc 2 1, 3) := by decide +kernel
theorem dX12_findPhrases_51 : decode cX12_findPhrases 51 = .ok (.aload_n 0, 1) := by decide +kernel
theorem dX12_findPhrases_52 : decode cX12_findPhrases 52 = .ok (.iload_n 1, 1) := by decide +kernel
theorem dX12_findPhrases_53 : decode cX12_findPhrases 53 = .ok (.iload_n 2, 1) := by decide +kernel
theorem dX12_findPhrases_54 : decode cX12_findPhrases 54 = .ok (.invokevirtual 174, 3) := by decide +kernel
theorem dX12_findPhrases_57 : decode cX12_findPhrases 57 = .ok (.istore 4, 2) := by decide +kernel
theorem dX12_findPhrases_59 : decode cX12_findPhrases 59 = .ok (.goto (-31), 3) := by decide +kernel
theorem dX12_findPhrases_62 : decode cX12_findPhrases 62 = .ok (.aload_n 0, 1) := by decide +kernel
theorem dX12_findPhrases_63 : decode cX12_findPhrases 63 = .ok (.iload_n 1, 1) := by decide +kernel
theorem dX12_findPhrases_64 : decode cX12_findPhrases 64 = .ok (.iload_n 2, 1) := by decide +kernel
theorem dX12_findPhrases_65 : decode cX12_findPhrases 65 = .ok (.iload 4, 2) := by decide +kernel
theorem dX12_findPhrases_67 : decode cX12_findPhrases 67 = .ok (.bipush (-2), 2) := by decide +kernel
theorem dX12_findPhrases_69 : decode cX12_findPhrases 69 = .ok (.if_icmp .eq 8, 3) := by decide +kernel
theorem dX12_findPhrases_72 : decode cX12_findPhrases 72 = .ok (.iload 4, 2) := by decide +kernel
theorem dX12_findPhrases_74 : decode cX12_findPhrases 74 = .ok (.goto 4, 3) := by decide +kernel
theorem dX12_findPhrases_77 : decode cX12_findPhrases 77 = .ok (.iload_n 3, 1) := by decide +kernel
theorem dX12_findPhrases_78 : decode cX12_findPhrases 78 = .ok (.invokevirtual 170, 3) := by decide +kernel
theorem dX12_findPhrases_81 : decode cX12_findPhrases 81 = .ok (.iload_n 1, 1) := by decide +kernel
theorem dX12_findPhrases_82 : decode cX12_findPhrases 82 = .ok (.iload_n 2, 1) := by decide +kernel
theorem dX12_findPhrases_83 : decode cX12_findPhrases 83 = .ok (.iadd, 1) := by decide +kernel
theorem dX12_findPhrases_84 : decode cX12_findPhrases 84 = .ok (.istore_n 1, 1) := by decide +kernel
theorem dX12_findPhrases_85 : decode cX12_findPhrases 85 = .ok (.goto (-78), 3) := by decide +kernel
theorem dX12_findPhrases_88 : decode cX12_findPhrases 88 = .ok (.return_, 1) := by decide +kernel
theorem dX12_findPieces_0 : decode cX12_findPieces 0 = .ok (.iload_n 1, 1) := by decide +kernel
theorem dX12_findPieces_1 : decode cX12_findPieces 1 = .ok (.ifCond .ne 10, 3) := by decide +kernel
theorem dX12_findPieces_4 : decode cX12_findPieces 4 = .ok (.aload_n 0, 1) := by decide +kernel
theorem dX12_findPieces_5 : decode cX12_findPieces 5 = .ok (.invokevirtual 177, 3) := by decide +kernel
theorem dX12_findPieces_8 : decode cX12_findPieces 8 = .ok (.goto 7, 3) := by decide +kernel
theorem dX12_findPieces_11 : decode cX12_findPieces 11 = .ok (.aload_n 0, 1) := by decide +kernel
theorem dX12_findPieces_12 : decode cX12_findPieces 12 = .ok (.invokevirtual 180, 3) := by decide +kernel
theorem dX12_findPieces_15 : decode cX12_findPieces 15 = .ok (.return_, 1) := by decide +kernel
theorem dX12_pieces_0 : decode cX12_pieces 0 = .ok (.aload_n 0, 1) := by decide +kernel
theorem dX12_pieces_1 : decode cX12_pieces 1 = .ok (.iconst 0, 1) := by decide +kernel
theorem dX12_pieces_2 : decode cX12_pieces 2 = .ok (.putfield 59, 3) := by decide +kernel
theorem dX12_pieces_5 : decode cX12_pieces 5 = .ok (.iload_n 1, 1) := by decide +kernel
theorem dX12_pieces_6 : decode cX12_pieces 6 = .ok (.invokestatic 155, 3) := by decide +kernel
theorem dX12_pieces_9 : decode cX12_pieces 9 = .ok (.ifCond .ne 5, 3) := by decide +kernel
theorem dX12_pieces_12 : decode cX12_pieces 12 = .ok (.iconst (-1), 1) := by decide +kernel
theorem dX12_pieces_13 : decode cX12_pieces 13 = .ok (.ireturn, 1) := by decide +kernel
theorem dX12_pieces_14 : decode cX12_pieces 14 = .ok (.aload_n 0, 1) := by decide +kernel
theorem dX12_pieces_15 : decode cX12_pieces 15 = .ok (.iload_n 1, 1) := by decide +kernel
theorem dX12_pieces_16 : decode cX12_pieces 16 = .ok (.invokevirtual 183, 3) := by decide +kernel
theorem dX12_pieces_19 : decode cX12_pieces 19 = .ok (.aload_n 0, 1) := by decide +kernel
theorem dX12_pieces_20 : decode cX12_pieces 20 = .ok (.getfield 164, 3) := by decide +kernel
theorem dX12_pieces_23 : decode cX12_pieces 23 = .ok (.ireturn, 1) := by decide +kernel
theorem dX12_piece_0 : decode cX12_piece 0 = .ok (.aload_n 0, 1) := by decide +kernel
theorem dX12_piece_1 : decode cX12_piece 1 = .ok (.iconst 0, 1) := by decide +kernel
theorem dX12_piece_2 : decode cX12_piece 2 = .ok (.putfield 59, 3) := by decide +kernel
theorem dX12_piece_5 : decode cX12_piece 5 = .ok (.iload_n 1, 1) := by decide +kernel
theorem dX12_piece_6 : decode cX12_piece 6 = .ok (.invokestatic 155, 3) := by decide +kernel
theorem dX12_piece_9 : decode cX12_piece 9 = .ok (.ifCond .eq 15, 3) := by decide +kernel
theorem dX12_piece_12 : decode cX12_piece 12 = .ok (.iload_n 3, 1) := by decide +kernel
theorem dX12_piece_13 : decode cX12_piece 13 = .ok (.i2l, 1) := by decide +kernel
theorem dX12_piece_14 : decode cX12_piece 14 = .ok (.lconst 0, 1) := by decide +kernel
theorem dX12_piece_15 : decode cX12_piece 15 = .ok (.ldc2_w 98, 3) := by decide +kernel
theorem dX12_piece_18 : decode cX12_piece 18 = .ok (.invokestatic 64, 3) := by decide +kernel
theorem dX12_piece_21 : decode cX12_piece 21 = .ok (.ifCond .ne 5, 3) := by decide +kernel
theorem dX12_piece_24 : decode cX12_piece 24 = .ok (.iconst (-1), 1) := by decide +kernel
theorem dX12_piece_25 : decode cX12_piece 25 = .ok (.ireturn, 1) := by decide +kernel
theorem dX12_piece_26 : decode cX12_piece 26 = .ok (.aload_n 0, 1) := by decide +kernel
theorem dX12_piece_27 : decode cX12_piece 27 = .ok (.iload_n 1, 1) := by decide +kernel
theorem dX12_piece_28 : decode cX12_piece 28 = .ok (.invokevirtual 183, 3) := by decide +kernel
theorem dX12_piece_31 : decode cX12_piece 31 = .ok (.iload_n 2, 1) := by decide +kernel
theorem dX12_piece_32 : decode cX12_piece 32 = .ok (.i2l, 1) := by decide +kernel
theorem dX12_piece_33 : decode cX12_piece 33 = .ok (.lconst 0, 1) := by decide +kernel
theorem dX12_piece_34 : decode cX12_piece 34 = .ok (.aload_n 0, 1) := by decide +kernel
theorem dX12_piece_35 : decode cX12_piece 35 = .ok (.getfield 164, 3) := by decide +kernel
theorem dX12_piece_38 : decode cX12_piece 38 = .ok (.iconst 1, 1) := by decide +kernel
theorem dX12_piece_39 : decode cX12_piece 39 = .ok (.isub, 1) := by decide +kernel
theorem dX12_piece_40 : decode cX12_piece 40 = .ok (.i2l, 1) := by decide +kernel
theorem dX12_piece_41 : decode cX12_piece 41 = .ok (.invokestatic 64, 3) := by decide +kernel
theorem dX12_piece_44 : decode cX12_piece 44 = .ok (.ifCond .ne 5, 3) := by decide +kernel
theorem dX12_piece_47 : decode cX12_piece 47 = .ok (.iconst (-1), 1) := by decide +kernel
theorem dX12_piece_48 : decode cX12_piece 48 = .ok (.ireturn, 1) := by decide +kernel
theorem dX12_piece_49 : decode cX12_piece 49 = .ok (.iload_n 3, 1) := by decide +kernel
theorem dX12_piece_50 : decode cX12_piece 50 = .ok (.ifCond .ne 12, 3) := by decide +kernel
theorem dX12_piece_53 : decode cX12_piece 53 = .ok (.aload_n 0, 1) := by decide +kernel
theorem dX12_piece_54 : decode cX12_piece 54 = .ok (.getfield 34, 3) := by decide +kernel
theorem dX12_piece_57 : decode cX12_piece 57 = .ok (.iload_n 2, 1) := by decide +kernel
theorem dX12_piece_58 : decode cX12_piece 58 = .ok (.iaload, 1) := by decide +kernel
theorem dX12_piece_59 : decode cX12_piece 59 = .ok (.goto 23, 3) := by decide +kernel
theorem dX12_piece_62 : decode cX12_piece 62 = .ok (.iload_n 3, 1) := by decide +kernel
theorem dX12_piece_63 : decode cX12_piece 63 = .ok (.iconst 1, 1) := by decide +kernel
theorem dX12_piece_64 : decode cX12_piece 64 = .ok (.if_icmp .ne 12, 3) := by decide +kernel
theorem dX12_piece_67 : decode cX12_piece 67 = .ok (.aload_n 0, 1) := by decide +kernel
theorem dX12_piece_68 : decode cX12_piece 68 = .ok (.getfield 37, 3) := by decide +kernel
theorem dX12_piece_71 : decode cX12_piece 71 = .ok (.iload_n 2, 1) := by decide +kernel
theorem dX12_piece_72 : decode cX12_piece 72 = .ok (.iaload, 1) := by decide +kernel
theorem dX12_piece_73 : decode cX12_piece 73 = .ok (.goto 9, 3) := by decide +kernel
theorem dX12_piece_76 : decode cX12_piece 76 = .ok (.aload_n 0, 1) := by decide +kernel
theorem dX12_piece_77 : decode cX12_piece 77 = .ok (.getfield 40, 3) := by decide +kernel
theorem dX12_piece_80 : decode cX12_piece 80 = .ok (.iload_n 2, 1) := by decide +kernel
theorem dX12_piece_81 : decode cX12_piece 81 = .ok (.iaload, 1) := by decide +kernel
theorem dX12_piece_82 : decode cX12_piece 82 = .ok (.ireturn, 1) := by decide +kernel
theorem dX12_isMade_0 : decode cX12_isMade 0 = .ok (.aload_n 0, 1) := by decide +kernel
theorem dX12_isMade_1 : decode cX12_isMade 1 = .ok (.getfield 52, 3) := by decide +kernel
theorem dX12_isMade_4 : decode cX12_isMade 4 = .ok (.aload_n 0, 1) := by decide +kernel
theorem dX12_isMade_5 : decode cX12_isMade 5 = .ok (.getfield 72, 3) := by decide +kernel
theorem dX12_isMade_8 : decode cX12_isMade 8 = .ok (.if_icmp .ne 7, 3) := by decide +kernel
theorem dX12_isMade_11 : decode cX12_isMade 11 = .ok (.iconst 1, 1) := by decide +kernel
theorem dX12_isMade_12 : decode cX12_isMade 12 = .ok (.goto 4, 3) := by decide +kernel
theorem dX12_isMade_15 : decode cX12_isMade 15 = .ok (.iconst 0, 1) := by decide +kernel
theorem dX12_isMade_16 : decode cX12_isMade 16 = .ok (.istore_n 1, 1) := by decide +kernel
theorem dX12_isMade_17 : decode cX12_isMade 17 = .ok (.iconst 0, 1) := by decide +kernel
theorem dX12_isMade_18 : decode cX12_isMade 18 = .ok (.istore_n 2, 1) := by decide +kernel
theorem dX12_isMade_19 : decode cX12_isMade 19 = .ok (.iload_n 2, 1) := by decide +kernel
theorem dX12_isMade_20 : decode cX12_isMade 20 = .ok (.aload_n 0, 1) := by decide +kernel
theorem dX12_isMade_21 : decode cX12_isMade 21 = .ok (.getfield 72, 3) := by decide +kernel
theorem dX12_isMade_24 : decode cX12_isMade 24 = .ok (.if_icmp .ge 34, 3) := by decide +kernel
theorem dX12_isMade_27 : decode cX12_isMade 27 = .ok (.iload_n 1, 1) := by decide +kernel
theorem dX12_isMade_28 : decode cX12_isMade 28 = .ok (.ifCond .eq 30, 3) := by decide +kernel
theorem dX12_isMade_31 : decode cX12_isMade 31 = .ok (.aload_n 0, 1) := by decide +kernel
theorem dX12_isMade_32 : decode cX12_isMade 32 = .ok (.getfield 56, 3) := by decide +kernel
theorem dX12_isMade_35 : decode cX12_isMade 35 = .ok (.iload_n 2, 1) := by decide +kernel
theorem dX12_isMade_36 : decode cX12_isMade 36 = .ok (.iaload, 1) := by decide +kernel
theorem dX12_isMade_37 : decode cX12_isMade 37 = .ok (.aload_n 0, 1) := by decide +kernel
theorem dX12_isMade_38 : decode cX12_isMade 38 = .ok (.getfield 7, 3) := by decide +kernel
theorem dX12_isMade_41 : decode cX12_isMade 41 = .ok (.iload_n 2, 1) := by decide +kernel
theorem dX12_isMade_42 : decode cX12_isMade 42 = .ok (.iaload, 1) := by decide +kernel
theorem dX12_isMade_43 : decode cX12_isMade 43 = .ok (.if_icmp .ne 7, 3) := by decide +kernel
theorem dX12_isMade_46 : decode cX12_isMade 46 = .ok (.iconst 1, 1) := by decide +kernel
theorem dX12_isMade_47 : decode cX12_isMade 47 = .ok (.goto 4, 3) := by decide +kernel
theorem dX12_isMade_50 : decode cX12_isMade 50 = .ok (.iconst 0, 1) := by decide +kernel
theorem dX12_isMade_51 : decode cX12_isMade 51 = .ok (.istore_n 1, 1) := by decide +kernel
theorem dX12_isMade_52 : decode cX12_isMade 52 = .ok (.iinc 2 1, 3) := by decide +kernel
theorem dX12_isMade_55 : decode cX12_isMade 55 = .ok (.goto (-36), 3) := by decide +kernel
theorem dX12_isMade_58 : decode cX12_isMade 58 = .ok (.iload_n 1, 1) := by decide +kernel
theorem dX12_isMade_59 : decode cX12_isMade 59 = .ok (.ireturn, 1) := by decide +kernel
theorem dX12_countPair_0 : decode cX12_countPair 0 = .ok (.iconst 0, 1) := by decide +kernel
theorem dX12_countPair_1 : decode cX12_countPair 1 = .ok (.istore_n 3, 1) := by decide +kernel
theorem dX12_countPair_2 : decode cX12_countPair 2 = .ok (.iconst 0, 1) := by decide +kernel
theorem dX12_countPair_3 : decode cX12_countPair 3 = .ok (.istore 4, 2) := by decide +kernel
theorem dX12_countPair_5 : decode cX12_countPair 5 = .ok (.iload 4, 2) := by decide +kernel
theorem dX12_countPair_7 : decode cX12_countPair 7 = .ok (.iconst 1, 1) := by decide +kernel
theorem dX12_countPair_8 : decode cX12_countPair 8 = .ok (.iadd, 1) := by decide +kernel
theorem dX12_countPair_9 : decode cX12_countPair 9 = .ok (.aload_n 0, 1) := by decide +kernel
theorem dX12_countPair_10 : decode cX12_countPair 10 = .ok (.getfield 187, 3) := by decide +kernel
theorem dX12_countPair_13 : decode cX12_countPair 13 = .ok (.if_icmp .ge 65, 3) := by decide +kernel
theorem dX12_countPair_16 : decode cX12_countPair 16 = .ok (.aload_n 0, 1) := by decide +kernel
theorem dX12_countPair_17 : decode cX12_countPair 17 = .ok (.getfield 43, 3) := by decide +kernel
theorem dX12_countPair_20 : decode cX12_countPair 20 = .ok (.iload 4, 2) := by decide +kernel
theorem dX12_countPair_22 : decode cX12_countPair 22 = .ok (.iaload, 1) := by decide +kernel
theorem dX12_countPair_23 : decode cX12_countPair 23 = .ok (.iload_n 1, 1) := by decide +kernel
theorem dX12_countPair_24 : decode cX12_countPair 24 = .ok (.if_icmp .ne 20, 3) := by decide +kernel
theorem dX12_countPair_27 : decode cX12_countPair 27 = .ok (.aload_n 0, 1) := by decide +kernel
theorem dX12_countPair_28 : decode cX12_countPair 28 = .ok (.getfield 43, 3) := by decide +kernel
theorem dX12_countPair_31 : decode cX12_countPair 31 = .ok (.iload 4, 2) := by decide +kernel
theorem dX12_countPair_33 : decode cX12_countPair 33 = .ok (.iconst 1, 1) := by decide +kernel
theorem dX12_countPair_34 : decode cX12_countPair 34 = .ok (.iadd, 1) := by decide +kernel
theorem dX12_countPair_35 : decode cX12_countPair 35 = .ok (.iaload, 1) := by decide +kernel
theorem dX12_countPair_36 : decode cX12_countPair 36 = .ok (.iload_n 2, 1) := by decide +kernel
theorem dX12_countPair_37 : decode cX12_countPair 37 = .ok (.if_icmp .ne 7, 3) := by decide +kernel
theorem dX12_countPair_40 : decode cX12_countPair 40 = .ok (.iconst 1, 1) := by decide +kernel
theorem dX12_countPair_41 : decode cX12_countPair 41 = .ok (.goto 4, 3) := by decide +kernel
theorem dX12_countPair_44 : decode cX12_countPair 44 = .ok (.iconst 0, 1) := by decide +kernel
theorem dX12_countPair_45 : decode cX12_countPair 45 = .ok (.istore 5, 2) := by decide +kernel
theorem dX12_countPair_47 : decode cX12_countPair 47 = .ok (.iload_n 3, 1) := by decide +kernel
theorem dX12_countPair_48 : decode cX12_countPair 48 = .ok (.iload 5, 2) := by decide +kernel
theorem dX12_countPair_50 : decode cX12_countPair 50 = .ok (.ifCond .eq 7, 3) := by decide +kernel
theorem dX12_countPair_53 : decode cX12_countPair 53 = .ok (.iconst 1, 1) := by decide +kernel
theorem dX12_countPair_54 : decode cX12_countPair 54 = .ok (.goto 4, 3) := by decide +kernel
theorem dX12_countPair_57 : decode cX12_countPair 57 = .ok (.iconst 0, 1) := by decide +kernel
theorem dX12_countPair_58 : decode cX12_countPair 58 = .ok (.iadd, 1) := by decide +kernel
theorem dX12_countPair_59 : decode cX12_countPair 59 = .ok (.istore_n 3, 1) := by decide +kernel
theorem dX12_countPair_60 : decode cX12_countPair 60 = .ok (.iload 4, 2) := by decide +kernel
theorem dX12_countPair_62 : decode cX12_countPair 62 = .ok (.iload 5, 2) := by decide +kernel
theorem dX12_countPair_64 : decode cX12_countPair 64 = .ok (.ifCond .eq 7, 3) := by decide +kernel
theorem dX12_countPair_67 : decode cX12_countPair 67 = .ok (.iconst 2, 1) := by decide +kernel
theorem dX12_countPair_68 : decode cX12_countPair 68 = .ok (.goto 4, 3) := by decide +kernel
theorem dX12_countPair_71 : decode cX12_countPair 71 = .ok (.iconst 1, 1) := by decide +kernel
theorem dX12_countPair_72 : decode cX12_countPair 72 = .ok (.iadd, 1) := by decide +kernel
theorem dX12_countPair_73 : decode cX12_countPair 73 = .ok (.istore 4, 2) := by decide +kernel
theorem dX12_countPair_75 : decode cX12_countPair 75 = .ok (.goto (-70), 3) := by decide +kernel
theorem dX12_countPair_78 : decode cX12_countPair 78 = .ok (.iload_n 3, 1) := by decide +kernel
theorem dX12_countPair_79 : decode cX12_countPair 79 = .ok (.ireturn, 1) := by decide +kernel
theorem dX12_bestPair_0 : decode cX12_bestPair 0 = .ok (.bipush (-2), 2) := by decide +kernel
theorem dX12_bestPair_2 : decode cX12_bestPair 2 = .ok (.istore_n 1, 1) := by decide +kernel
theorem dX12_bestPair_3 : decode cX12_bestPair 3 = .ok (.iconst 1, 1) := by decide +kernel
theorem dX12_bestPair_4 : decode cX12_bestPair 4 = .ok (.istore_n 2, 1) := by decide +kernel
theorem dX12_bestPair_5 : decode cX12_bestPair 5 = .ok (.iconst 0, 1) := by decide +kernel
theorem dX12_bestPair_6 : decode cX12_bestPair 6 = .ok (.istore_n 3, 1) := by decide +kernel
theorem dX12_bestPair_7 : decode cX12_bestPair 7 = .ok (.iload_n 3, 1) := by decide +kernel
theorem dX12_bestPair_8 : decode cX12_bestPair 8 = .ok (.iconst 1, 1) := by decide +kernel
theorem dX12_bestPair_9 : decode cX12_bestPair 9 = .ok (.iadd, 1) := by decide +kernel
theorem dX12_bestPair_10 : decode cX12_bestPair 10 = .ok (.aload_n 0, 1) := by decide +kernel
theorem dX12_bestPair_11 : decode cX12_bestPair 11 = .ok (.getfield 187, 3) := by decide +kernel
theorem dX12_bestPair_14 : decode cX12_bestPair 14 = .ok (.if_icmp .ge 188, 3) := by decide +kernel
theorem dX12_bestPair_17 : decode cX12_bestPair 17 = .ok (.iconst 1, 1) := by decide +kernel
theorem dX12_bestPair_18 : decode cX12_bestPair 18 = .ok (.istore 4, 2) := by decide +kernel
theorem dX12_bestPair_20 : decode cX12_bestPair 20 = .ok (.iconst 0, 1) := by decide +kernel
theorem dX12_bestPair_21 : decode cX12_bestPair 21 = .ok (.istore 5, 2) := by decide +kernel
theorem dX12_bestPair_23 : decode cX12_bestPair 23 = .ok (.iload 5, 2) := by decide +kernel
theorem dX12_bestPair_25 : decode cX12_bestPair 25 = .ok (.iload_n 3, 1) := by decide +kernel
theorem dX12_bestPair_26 : decode cX12_bestPair 26 = .ok (.if_icmp .ge 57, 3) := by decide +kernel
theorem dX12_bestPair_29 : decode cX12_bestPair 29 = .ok (.iload 4, 2) := by decide +kernel
theorem dX12_bestPair_31 : decode cX12_bestPair 31 = .ok (.ifCond .eq 52, 3) := by decide +kernel
theorem dX12_bestPair_34 : decode cX12_bestPair 34 = .ok (.aload_n 0, 1) := by decide +kernel
theorem dX12_bestPair_35 : decode cX12_bestPair 35 = .ok (.getfield 43, 3) := by decide +kernel
theorem dX12_bestPair_38 : decode cX12_bestPair 38 = .ok (.iload 5, 2) := by decide +kernel
theorem dX12_bestPair_40 : decode cX12_bestPair 40 = .ok (.iaload, 1) := by decide +kernel
theorem dX12_bestPair_41 : decode cX12_bestPair 41 = .ok (.aload_n 0, 1) := by decide +kernel
theorem dX12_bestPair_42 : decode cX12_bestPair 42 = .ok (.getfield 43, 3) := by decide +kernel
theorem dX12_bestPair_45 : decode cX12_bestPair 45 = .ok (.iload_n 3, 1) := by decide +kernel
theorem dX12_bestPair_46 : decode cX12_bestPair 46 = .ok (.iaload, 1) := by decide +kernel
theorem dX12_bestPair_47 : decode cX12_bestPair 47 = .ok (.if_icmp .ne 23, 3) := by decide +kernel
theorem dX12_bestPair_50 : decode cX12_bestPair 50 = .ok (.aload_n 0, 1) := by decide +kernel
theorem dX12_bestPair_51 : decode cX12_bestPair 51 = .ok (.getfield 43, 3) := by decide +kernel
theorem dX12_bestPair_54 : decode cX12_bestPair 54 = .ok (.iload 5, 2) := by decide +kernel
theorem dX12_bestPair_56 : decode cX12_bestPair 56 = .ok (.iconst 1, 1) := by decide +kernel
theorem dX12_bestPair_57 : decode cX12_bestPair 57 = .ok (.iadd, 1) := by decide +kernel
theorem dX12_bestPair_58 : decode cX12_bestPair 58 = .ok (.iaload, 1) := by decide +kernel
theorem dX12_bestPair_59 : decode cX12_bestPair 59 = .ok (.aload_n 0, 1) := by decide +kernel
theorem dX12_bestPair_60 : decode cX12_bestPair 60 = .ok (.getfield 43, 3) := by decide +kernel
theorem dX12_bestPair_63 : decode cX12_bestPair 63 = .ok (.iload_n 3, 1) := by decide +kernel
theorem dX12_bestPair_64 : decode cX12_bestPair 64 = .ok (.iconst 1, 1) := by decide +kernel
theorem dX12_bestPair_65 : decode cX12_bestPair 65 = .ok (.iadd, 1) := by decide +kernel
theorem dX12_bestPair_66 : decode cX12_bestPair 66 = .ok (.iaload, 1) := by decide +kernel
theorem dX12_bestPair_67 : decode cX12_bestPair 67 = .ok (.if_icmp .eq 7, 3) := by decide +kernel
theorem dX12_bestPair_70 : decode cX12_bestPair 70 = .ok (.iconst 1, 1) := by decide +kernel
theorem dX12_bestPair_71 : decode cX12_bestPair 71 = .ok (.goto 4, 3) := by decide +kernel
theorem dX12_bestPair_74 : decode cX12_bestPair 74 = .ok (.iconst 0, 1) := by decide +kernel
theorem dX12_bestPair_75 : decode cX12_bestPair 75 = .ok (.istore 4, 2) := by decide +kernel
theorem dX12_bestPair_77 : decode cX12_bestPair 77 = .ok (.iinc 5 1, 3) := by decide +kernel
theorem dX12_bestPair_80 : decode cX12_bestPair 80 = .ok (.goto (-57), 3) := by decide +kernel
theorem dX12_bestPair_83 : decode cX12_bestPair 83 = .ok (.iload 4, 2) := by decide +kernel
theorem dX12_bestPair_85 : decode cX12_bestPair 85 = .ok (.ifCond .eq 24, 3) := by decide +kernel
theorem dX12_bestPair_88 : decode cX12_bestPair 88 = .ok (.aload_n 0, 1) := by decide +kernel
theorem dX12_bestPair_89 : decode cX12_bestPair 89 = .ok (.aload_n 0, 1) := by decide +kernel
theorem dX12_bestPair_90 : decode cX12_bestPair 90 = .ok (.getfield 43, 3) := by decide +kernel
theorem dX12_bestPair_93 : decode cX12_bestPair 93 = .ok (.iload_n 3, 1) := by decide +kernel
theorem dX12_bestPair_94 : decode cX12_bestPair 94 = .ok (.iaload, 1) := by decide +kernel
theorem dX12_bestPair_95 : decode cX12_bestPair 95 = .ok (.aload_n 0, 1) := by decide +kernel
theorem dX12_bestPair_96 : decode cX12_bestPair 96 = .ok (.getfield 43, 3) := by decide +kernel
theorem dX12_bestPair_99 : decode cX12_bestPair 99 = .ok (.iload_n 3, 1) := by decide +kernel
theorem dX12_bestPair_100 : decode cX12_bestPair 100 = .ok (.iconst 1, 1) := by decide +kernel
theorem dX12_bestPair_101 : decode cX12_bestPair 101 = .ok (.iadd, 1) := by decide +kernel
theorem dX12_bestPair_102 : decode cX12_bestPair 102 = .ok (.iaload, 1) := by decide +kernel
theorem dX12_bestPair_103 : decode cX12_bestPair 103 = .ok (.invokevirtual 190, 3) := by decide +kernel
theorem dX12_bestPair_106 : decode cX12_bestPair 106 = .ok (.goto 4, 3) := by decide +kernel
theorem dX12_bestPair_109 : decode cX12_bestPair 109 = .ok (.iconst 0, 1) := by decide +kernel
theorem dX12_bestPair_110 : decode cX12_bestPair 110 = .ok (.istore 5, 2) := by decide +kernel
theorem dX12_bestPair_112 : decode cX12_bestPair 112 = .ok (.iload_n 1, 1) := by decide +kernel
theorem dX12_bestPair_113 : decode cX12_bestPair 113 = .ok (.bipush (-2), 2) := by decide +kernel
theorem dX12_bestPair_115 : decode cX12_bestPair 115 = .ok (.if_icmp .eq 62, 3) := by decide +kernel
theorem dX12_bestPair_118 : decode cX12_bestPair 118 = .ok (.iload 5, 2) := by decide +kernel
theorem dX12_bestPair_120 : decode cX12_bestPair 120 = .ok (.iload_n 2, 1) := by decide +kernel
theorem dX12_bestPair_121 : decode cX12_bestPair 121 = .ok (.if_icmp .ne 56, 3) := by decide +kernel
theorem dX12_bestPair_124 : decode cX12_bestPair 124 = .ok (.aload_n 0, 1) := by decide +kernel
theorem dX12_bestPair_125 : decode cX12_bestPair 125 = .ok (.getfield 43, 3) := by decide +kernel
theorem dX12_bestPair_128 : decode cX12_bestPair 128 = .ok (.iload_n 3, 1) := by decide +kernel
theorem dX12_bestPair_129 : decode cX12_bestPair 129 = .ok (.iaload, 1) := by decide +kernel
theorem dX12_bestPair_130 : decode cX12_bestPair 130 = .ok (.aload_n 0, 1) := by decide +kernel
theorem dX12_bestPair_131 : decode cX12_bestPair 131 = .ok (.getfield 43, 3) := by decide +kernel
theorem dX12_bestPair_134 : decode cX12_bestPair 134 = .ok (.iload_n 1, 1) := by decide +kernel
theorem dX12_bestPair_135 : decode cX12_bestPair 135 = .ok (.iaload, 1) := by decide +kernel
theorem dX12_bestPair_136 : decode cX12_bestPair 136 = .ok (.if_icmp .lt 37, 3) := by decide +kernel
theorem dX12_bestPair_139 : decode cX12_bestPair 139 = .ok (.aload_n 0, 1) := by decide +kernel
theorem dX12_bestPair_140 : decode cX12_bestPair 140 = .ok (.getfield 43, 3) := by decide +kernel
theorem dX12_bestPair_143 : decode cX12_bestPair 143 = .ok (.iload_n 3, 1) := by decide +kernel
theorem dX12_bestPair_144 : decode cX12_bestPair 144 = .ok (.iaload, 1) := by decide +kernel
theorem dX12_bestPair_145 : decode cX12_bestPair 145 = .ok (.aload_n 0, 1) := by decide +kernel
theorem dX12_bestPair_146 : decode cX12_bestPair 146 = .ok (.getfield 43, 3) := by decide +kernel
theorem dX12_bestPair_149 : decode cX12_bestPair 149 = .ok (.iload_n 1, 1) := by decide +kernel
theorem dX12_bestPair_150 : decode cX12_bestPair 150 = .ok (.iaload, 1) := by decide +kernel
theorem dX12_bestPair_151 : decode cX12_bestPair 151 = .ok (.if_icmp .ne 26, 3) := by decide +kernel
theorem dX12_bestPair_154 : decode cX12_bestPair 154 = .ok (.aload_n 0, 1) := by decide +kernel
theorem dX12_bestPair_155 : decode cX12_bestPair 155 = .ok (.getfield 43, 3) := by decide +kernel
theorem dX12_bestPair_158 : decode cX12_bestPair 158 = .ok (.iload_n 3, 1) := by decide +kernel
theorem dX12_bestPair_159 : decode cX12_bestPair 159 = .ok (.iconst 1, 1) := by decide +kernel
theorem dX12_bestPair_160 : decode cX12_bestPair 160 = .ok (.iadd, 1) := by decide +kernel
theorem dX12_bestPair_161 : decode cX12_bestPair 161 = .ok (.iaload, 1) := by decide +kernel
theorem dX12_bestPair_162 : decode cX12_bestPair 162 = .ok (.aload_n 0, 1) := by decide +kernel
theorem dX12_bestPair_163 : decode cX12_bestPair 163 = .ok (.getfield 43, 3) := by decide +kernel
theorem dX12_bestPair_166 : decode cX12_bestPair 166 = .ok (.iload_n 1, 1) := by decide +kernel
theorem dX12_bestPair_167 : decode cX12_bestPair 167 = .ok (.iconst 1, 1) := by decide +kernel
theorem dX12_bestPair_168 : decode cX12_bestPair 168 = .ok (.iadd, 1) := by decide +kernel
theorem dX12_bestPair_169 : decode cX12_bestPair 169 = .ok (.iaload, 1) := by decide +kernel
theorem dX12_bestPair_170 : decode cX12_bestPair 170 = .ok (.if_icmp .ge 7, 3) := by decide +kernel
theorem dX12_bestPair_173 : decode cX12_bestPair 173 = .ok (.iconst 1, 1) := by decide +kernel
theorem dX12_bestPair_174 : decode cX12_bestPair 174 = .ok (.goto 4, 3) := by decide +kernel
theorem dX12_bestPair_177 : decode cX12_bestPair 177 = .ok (.iconst 0, 1) := by decide +kernel
theorem dX12_bestPair_178 : decode cX12_bestPair 178 = .ok (.istore 6, 2) := by decide +kernel
theorem dX12_bestPair_180 : decode cX12_bestPair 180 = .ok (.iload 5, 2) := by decide +kernel
theorem dX12_bestPair_182 : decode cX12_bestPair 182 = .ok (.iload_n 2, 1) := by decide +kernel
theorem dX12_bestPair_183 : decode cX12_bestPair 183 = .ok (.if_icmp .gt 8, 3) := by decide +kernel
theorem dX12_bestPair_186 : decode cX12_bestPair 186 = .ok (.iload 6, 2) := by decide +kernel
theorem dX12_bestPair_188 : decode cX12_bestPair 188 = .ok (.ifCond .eq 8, 3) := by decide +kernel
theorem dX12_bestPair_191 : decode cX12_bestPair 191 = .ok (.iload 5, 2) := by decide +kernel
theorem dX12_bestPair_193 : decode cX12_bestPair 193 = .ok (.istore_n 2, 1) := by decide +kernel
theorem dX12_bestPair_194 : decode cX12_bestPair 194 = .ok (.iload_n 3, 1) := by decide +kernel
theorem dX12_bestPair_195 : decode cX12_bestPair 195 = .ok (.istore_n 1, 1) := by decide +kernel
theorem dX12_bestPair_196 : decode cX12_bestPair 196 = .ok (.iinc 3 1, 3) := by decide +kernel
theorem dX12_bestPair_199 : decode cX12_bestPair 199 = .ok (.goto (-192), 3) := by decide +kernel
theorem dX12_bestPair_202 : decode cX12_bestPair 202 = .ok (.iload_n 1, 1) := by decide +kernel
theorem dX12_bestPair_203 : decode cX12_bestPair 203 = .ok (.ireturn, 1) := by decide +kernel
theorem dX12_makeGrammar_0 : decode cX12_makeGrammar 0 = .ok (.aload_n 0, 1) := by decide +kernel
theorem dX12_makeGrammar_1 : decode cX12_makeGrammar 1 = .ok (.invokevirtual 193, 3) := by decide +kernel
theorem dX12_makeGrammar_4 : decode cX12_makeGrammar 4 = .ok (.ifCond .eq 4, 3) := by decide +kernel
theorem dX12_makeGrammar_7 : decode cX12_makeGrammar 7 = .ok (.return_, 1) := by decide +kernel
theorem dX12_makeGrammar_8 : decode cX12_makeGrammar 8 = .ok (.aload_n 0, 1) := by decide +kernel
theorem dX12_makeGrammar_9 : decode cX12_makeGrammar 9 = .ok (.aload_n 0, 1) := by decide +kernel
theorem dX12_makeGrammar_10 : decode cX12_makeGrammar 10 = .ok (.getfield 72, 3) := by decide +kernel
theorem dX12_makeGrammar_13 : decode cX12_makeGrammar 13 = .ok (.putfield 52, 3) := by decide +kernel
theorem dX12_makeGrammar_16 : decode cX12_makeGrammar 16 = .ok (.aload_n 0, 1) := by decide +kernel
theorem dX12_makeGrammar_17 : decode cX12_makeGrammar 17 = .ok (.aload_n 0, 1) := by decide +kernel
theorem dX12_makeGrammar_18 : decode cX12_makeGrammar 18 = .ok (.getfield 72, 3) := by decide +kernel
theorem dX12_makeGrammar_21 : decode cX12_makeGrammar 21 = .ok (.putfield 187, 3) := by decide +kernel
theorem dX12_makeGrammar_24 : decode cX12_makeGrammar 24 = .ok (.aload_n 0, 1) := by decide +kernel
theorem dX12_makeGrammar_25 : decode cX12_makeGrammar 25 = .ok (.iconst 0, 1) := by decide +kernel
theorem dX12_makeGrammar_26 : decode cX12_makeGrammar 26 = .ok (.putfield 197, 3) := by decide +kernel
theorem dX12_makeGrammar_29 : decode cX12_makeGrammar 29 = .ok (.iconst 0, 1) := by decide +kernel
theorem dX12_makeGrammar_30 : decode cX12_makeGrammar 30 = .ok (.istore_n 1, 1) := by decide +kernel
theorem dX12_makeGrammar_31 : decode cX12_makeGrammar 31 = .ok (.iload_n 1, 1) := by decide +kernel
theorem dX12_makeGrammar_32 : decode cX12_makeGrammar 32 = .ok (.aload_n 0, 1) := by decide +kernel
theorem dX12_makeGrammar_33 : decode cX12_makeGrammar 33 = .ok (.getfield 72, 3) := by decide +kernel
theorem dX12_makeGrammar_36 : decode cX12_makeGrammar 36 = .ok (.if_icmp .ge 33, 3) := by decide +kernel
theorem dX12_makeGrammar_39 : decode cX12_makeGrammar 39 = .ok (.aload_n 0, 1) := by decide +kernel
theorem dX12_makeGrammar_40 : decode cX12_makeGrammar 40 = .ok (.getfield 56, 3) := by decide +kernel
theorem dX12_makeGrammar_43 : decode cX12_makeGrammar 43 = .ok (.iload_n 1, 1) := by decide +kernel
theorem dX12_makeGrammar_44 : decode cX12_makeGrammar 44 = .ok (.aload_n 0, 1) := by decide +kernel
theorem dX12_makeGrammar_45 : decode cX12_makeGrammar 45 = .ok (.getfield 7, 3) := by decide +kernel
theorem dX12_makeGrammar_48 : decode cX12_makeGrammar 48 = .ok (.iload_n 1, 1) := by decide +kernel
theorem dX12_makeGrammar_49 : decode cX12_makeGrammar 49 = .ok (.iaload, 1) := by decide +kernel
theorem dX12_makeGrammar_50 : decode cX12_makeGrammar 50 = .ok (.iastore, 1) := by decide +kernel
theorem dX12_makeGrammar_51 : decode cX12_makeGrammar 51 = .ok (.aload_n 0, 1) := by decide +kernel
theorem dX12_makeGrammar_52 : decode cX12_makeGrammar 52 = .ok (.getfield 43, 3) := by decide +kernel
theorem dX12_makeGrammar_55 : decode cX12_makeGrammar 55 = .ok (.iload_n 1, 1) := by decide +kernel
theorem dX12_makeGrammar_56 : decode cX12_makeGrammar 56 = .ok (.aload_n 0, 1) := by decide +kernel
theorem dX12_makeGrammar_57 : decode cX12_makeGrammar 57 = .ok (.getfield 7, 3) := by decide +kernel
theorem dX12_makeGrammar_60 : decode cX12_makeGrammar 60 = .ok (.iload_n 1, 1) := by decide +kernel
theorem dX12_makeGrammar_61 : decode cX12_makeGrammar 61 = .ok (.iaload, 1) := by decide +kernel
theorem dX12_makeGrammar_62 : decode cX12_makeGrammar 62 = .ok (.iastore, 1) := by decide +kernel
theorem dX12_makeGrammar_63 : decode cX12_makeGrammar 63 = .ok (.iinc 1 1, 3) := by decide +kernel
theorem dX12_makeGrammar_66 : decode cX12_makeGrammar 66 = .ok (.goto (-35), 3) := by decide +kernel
theorem dX12_makeGrammar_69 : decode cX12_makeGrammar 69 = .ok (.aload_n 0, 1) := by decide +kernel
theorem dX12_makeGrammar_70 : decode cX12_makeGrammar 70 = .ok (.invokevirtual 200, 3) := by decide +kernel
theorem dX12_makeGrammar_73 : decode cX12_makeGrammar 73 = .ok (.istore_n 1, 1) := by decide +kernel
theorem dX12_makeGrammar_74 : decode cX12_makeGrammar 74 = .ok (.iload_n 1, 1) := by decide +kernel
theorem dX12_makeGrammar_75 : decode cX12_makeGrammar 75 = .ok (.bipush (-2), 2) := by decide +kernel
theorem dX12_makeGrammar_77 : decode cX12_makeGrammar 77 = .ok (.if_icmp .eq 170, 3) := by decide +kernel
theorem dX12_makeGrammar_80 : decode cX12_makeGrammar 80 = .ok (.aload_n 0, 1) := by decide +kernel
theorem dX12_makeGrammar_81 : decode cX12_makeGrammar 81 = .ok (.getfield 43, 3) := by decide +kernel
theorem dX12_makeGrammar_84 : decode cX12_makeGrammar 84 = .ok (.iload_n 1, 1) := by decide +kernel
theorem dX12_makeGrammar_85 : decode cX12_makeGrammar 85 = .ok (.iaload, 1) := by decide +kernel
theorem dX12_makeGrammar_86 : decode cX12_makeGrammar 86 = .ok (.istore_n 2, 1) := by decide +kernel
theorem dX12_makeGrammar_87 : decode cX12_makeGrammar 87 = .ok (.aload_n 0, 1) := by decide +kernel
theorem dX12_makeGrammar_88 : decode cX12_makeGrammar 88 = .ok (.getfield 43, 3) := by decide +kernel
theorem dX12_makeGrammar_91 : decode cX12_makeGrammar 91 = .ok (.iload_n 1, 1) := by decide +kernel
theorem dX12_makeGrammar_92 : decode cX12_makeGrammar 92 = .ok (.iconst 1, 1) := by decide +kernel
theorem dX12_makeGrammar_93 : decode cX12_makeGrammar 93 = .ok (.iadd, 1) := by decide +kernel
theorem dX12_makeGrammar_94 : decode cX12_makeGrammar 94 = .ok (.iaload, 1) := by decide +kernel
theorem dX12_makeGrammar_95 : decode cX12_makeGrammar 95 = .ok (.istore_n 3, 1) := by decide +kernel
theorem dX12_makeGrammar_96 : decode cX12_makeGrammar 96 = .ok (.aload_n 0, 1) := by decide +kernel
theorem dX12_makeGrammar_97 : decode cX12_makeGrammar 97 = .ok (.getfield 46, 3) := by decide +kernel
theorem dX12_makeGrammar_100 : decode cX12_makeGrammar 100 = .ok (.aload_n 0, 1) := by decide +kernel
theorem dX12_makeGrammar_101 : decode cX12_makeGrammar 101 = .ok (.getfield 197, 3) := by decide +kernel
theorem dX12_makeGrammar_104 : decode cX12_makeGrammar 104 = .ok (.iload_n 2, 1) := by decide +kernel
theorem dX12_makeGrammar_105 : decode cX12_makeGrammar 105 = .ok (.iastore, 1) := by decide +kernel
theorem dX12_makeGrammar_106 : decode cX12_makeGrammar 106 = .ok (.aload_n 0, 1) := by decide +kernel
theorem dX12_makeGrammar_107 : decode cX12_makeGrammar 107 = .ok (.getfield 49, 3) := by decide +kernel
theorem dX12_makeGrammar_110 : decode cX12_makeGrammar 110 = .ok (.aload_n 0, 1) := by decide +kernel
theorem dX12_makeGrammar_111 : decode cX12_makeGrammar 111 = .ok (.getfield 197, 3) := by decide +kernel
theorem dX12_makeGrammar_114 : decode cX12_makeGrammar 114 = .ok (.iload_n 3, 1) := by decide +kernel
theorem dX12_makeGrammar_115 : decode cX12_makeGrammar 115 = .ok (.iastore, 1) := by decide +kernel
theorem dX12_makeGrammar_116 : decode cX12_makeGrammar 116 = .ok (.iconst 0, 1) := by decide +kernel
theorem dX12_makeGrammar_117 : decode cX12_makeGrammar 117 = .ok (.istore 4, 2) := by decide +kernel
theorem dX12_makeGrammar_119 : decode cX12_makeGrammar 119 = .ok (.iconst 0, 1) := by decide +kernel
theorem dX12_makeGrammar_120 : decode cX12_makeGrammar 120 = .ok (.istore 5, 2) := by decide +kernel
theorem dX12_makeGrammar_122 : decode cX12_makeGrammar 122 = .ok (.iload 5, 2) := by decide +kernel
theorem dX12_makeGrammar_124 : decode cX12_makeGrammar 124 = .ok (.aload_n 0, 1) := by decide +kernel
theorem dX12_makeGrammar_125 : decode cX12_makeGrammar 125 = .ok (.getfield 187, 3) := by decide +kernel
theorem dX12_makeGrammar_128 : decode cX12_makeGrammar 128 = .ok (.if_icmp .ge 95, 3) := by decide +kernel
theorem dX12_makeGrammar_131 : decode cX12_makeGrammar 131 = .ok (.iload 5, 2) := by decide +kernel
theorem dX12_makeGrammar_133 : decode cX12_makeGrammar 133 = .ok (.iconst 1, 1) := by decide +kernel
theorem dX12_makeGrammar_134 : decode cX12_makeGrammar 134 = .ok (.iadd, 1) := by decide +kernel
theorem dX12_makeGrammar_135 : decode cX12_makeGrammar 135 = .ok (.aload_n 0, 1) := by decide +kernel
theorem dX12_makeGrammar_136 : decode cX12_makeGrammar 136 = .ok (.getfield 187, 3) := by decide +kernel
theorem dX12_makeGrammar_139 : decode cX12_makeGrammar 139 = .ok (.if_icmp .ge 31, 3) := by decide +kernel
theorem dX12_makeGrammar_142 : decode cX12_makeGrammar 142 = .ok (.aload_n 0, 1) := by decide +kernel
theorem dX12_makeGrammar_143 : decode cX12_makeGrammar 143 = .ok (.getfield 43, 3) := by decide +kernel
theorem dX12_makeGrammar_146 : decode cX12_makeGrammar 146 = .ok (.iload 5, 2) := by decide +kernel
theorem dX12_makeGrammar_148 : decode cX12_makeGrammar 148 = .ok (.iaload, 1) := by decide +kernel
theorem dX12_makeGrammar_149 : decode cX12_makeGrammar 149 = .ok (.iload_n 2, 1) := by decide +kernel
theorem dX12_makeGrammar_150 : decode cX12_makeGrammar 150 = .ok (.if_icmp .ne 20, 3) := by decide +kernel
theorem dX12_makeGrammar_153 : decode cX12_makeGrammar 153 = .ok (.aload_n 0, 1) := by decide +kernel
theorem dX12_makeGrammar_154 : decode cX12_makeGrammar 154 = .ok (.getfield 43, 3) := by decide +kernel
theorem dX12_makeGrammar_157 : decode cX12_makeGrammar 157 = .ok (.iload 5, 2) := by decide +kernel
theorem dX12_makeGrammar_159 : decode cX12_makeGrammar 159 = .ok (.iconst 1, 1) := by decide +kernel
theorem dX12_makeGrammar_160 : decode cX12_makeGrammar 160 = .ok (.iadd, 1) := by decide +kernel
theorem dX12_makeGrammar_161 : decode cX12_makeGrammar 161 = .ok (.iaload, 1) := by decide +kernel
theorem dX12_makeGrammar_162 : decode cX12_makeGrammar 162 = .ok (.iload_n 3, 1) := by decide +kernel
theorem dX12_makeGrammar_163 : decode cX12_makeGrammar 163 = .ok (.if_icmp .ne 7, 3) := by decide +kernel
theorem dX12_makeGrammar_166 : decode cX12_makeGrammar 166 = .ok (.iconst 1, 1) := by decide +kernel
theorem dX12_makeGrammar_167 : decode cX12_makeGrammar 167 = .ok (.goto 4, 3) := by decide +kernel
theorem dX12_makeGrammar_170 : decode cX12_makeGrammar 170 = .ok (.iconst 0, 1) := by decide +kernel
theorem dX12_makeGrammar_171 : decode cX12_makeGrammar 171 = .ok (.istore 6, 2) := by decide +kernel
theorem dX12_makeGrammar_173 : decode cX12_makeGrammar 173 = .ok (.aload_n 0, 1) := by decide +kernel
theorem dX12_makeGrammar_174 : decode cX12_makeGrammar 174 = .ok (.getfield 43, 3) := by decide +kernel
theorem dX12_makeGrammar_177 : decode cX12_makeGrammar 177 = .ok (.iload 4, 2) := by decide +kernel
theorem dX12_makeGrammar_179 : decode cX12_makeGrammar 179 = .ok (.iload 6, 2) := by decide +kernel
theorem dX12_makeGrammar_181 : decode cX12_makeGrammar 181 = .ok (.ifCond .eq 13, 3) := by decide +kernel
theorem dX12_makeGrammar_184 : decode cX12_makeGrammar 184 = .ok (.bipush 16, 2) := by decide +kernel
theorem dX12_makeGrammar_186 : decode cX12_makeGrammar 186 = .ok (.aload_n 0, 1) := by decide +kernel
theorem dX12_makeGrammar_187 : decode cX12_makeGrammar 187 = .ok (.getfield 197, 3) := by decide +kernel
theorem dX12_makeGrammar_190 : decode cX12_makeGrammar 190 = .ok (.iadd, 1) := by decide +kernel
theorem dX12_makeGrammar_191 : decode cX12_makeGrammar 191 = .ok (.goto 10, 3) := by decide +kernel
theorem dX12_makeGrammar_194 : decode cX12_makeGrammar 194 = .ok (.aload_n 0, 1) := by decide +kernel
theorem dX12_makeGrammar_195 : decode cX12_makeGrammar 195 = .ok (.getfield 43, 3) := by decide +kernel
theorem dX12_makeGrammar_198 : decode cX12_makeGrammar 198 = .ok (.iload 5, 2) := by decide +kernel
theorem dX12_makeGrammar_200 : decode cX12_makeGrammar 200 = .ok (.iaload, 1) := by decide +kernel
theorem dX12_makeGrammar_201 : decode cX12_makeGrammar 201 = .ok (.iastore, 1) := by decide +kernel
theorem dX12_makeGrammar_202 : decode cX12_makeGrammar 202 = .ok (.iinc 4 1, 3) := by decide +kernel
theorem dX12_makeGrammar_205 : decode cX12_makeGrammar 205 = .ok (.iload 5, 2) := by decide +kernel
theorem dX12_makeGrammar_207 : decode cX12_makeGrammar 207 = .ok (.iload 6, 2) := by decide +kernel
theorem dX12_makeGrammar_209 : decode cX12_makeGrammar 209 = .ok (.ifCond .eq 7, 3) := by decide +kernel
theorem dX12_makeGrammar_212 : decode cX12_makeGrammar 212 = .ok (.iconst 2, 1) := by decide +kernel
theorem dX12_makeGrammar_213 : decode cX12_makeGrammar 213 = .ok (.goto 4, 3) := by decide +kernel
theorem dX12_makeGrammar_216 : decode cX12_makeGrammar 216 = .ok (.iconst 1, 1) := by decide +kernel
theorem dX12_makeGrammar_217 : decode cX12_makeGrammar 217 = .ok (.iadd, 1) := by decide +kernel
theorem dX12_makeGrammar_218 : decode cX12_makeGrammar 218 = .ok (.istore 5, 2) := by decide +kernel
theorem dX12_makeGrammar_220 : decode cX12_makeGrammar 220 = .ok (.goto (-98), 3) := by decide +kernel
theorem dX12_makeGrammar_223 : decode cX12_makeGrammar 223 = .ok (.aload_n 0, 1) := by decide +kernel
theorem dX12_makeGrammar_224 : decode cX12_makeGrammar 224 = .ok (.iload 4, 2) := by decide +kernel
theorem dX12_makeGrammar_226 : decode cX12_makeGrammar 226 = .ok (.putfield 187, 3) := by decide +kernel
theorem dX12_makeGrammar_229 : decode cX12_makeGrammar 229 = .ok (.aload_n 0, 1) := by decide +kernel
theorem dX12_makeGrammar_230 : decode cX12_makeGrammar 230 = .ok (.dup, 1) := by decide +kernel
theorem dX12_makeGrammar_231 : decode cX12_makeGrammar 231 = .ok (.getfield 197, 3) := by decide +kernel
theorem dX12_makeGrammar_234 : decode cX12_makeGrammar 234 = .ok (.iconst 1, 1) := by decide +kernel
theorem dX12_makeGrammar_235 : decode cX12_makeGrammar 235 = .ok (.iadd, 1) := by decide +kernel
theorem dX12_makeGrammar_236 : decode cX12_makeGrammar 236 = .ok (.putfield 197, 3) := by decide +kernel
theorem dX12_makeGrammar_239 : decode cX12_makeGrammar 239 = .ok (.aload_n 0, 1) := by decide +kernel
theorem dX12_makeGrammar_240 : decode cX12_makeGrammar 240 = .ok (.invokevirtual 200, 3) := by decide +kernel
theorem dX12_makeGrammar_243 : decode cX12_makeGrammar 243 = .ok (.istore_n 1, 1) := by decide +kernel
theorem dX12_makeGrammar_244 : decode cX12_makeGrammar 244 = .ok (.goto (-170), 3) := by decide +kernel
theorem dX12_makeGrammar_247 : decode cX12_makeGrammar 247 = .ok (.return_, 1) := by decide +kernel
theorem dX12_grammar_0 : decode cX12_grammar 0 = .ok (.aload_n 0, 1) := by decide +kernel
theorem dX12_grammar_1 : decode cX12_grammar 1 = .ok (.iconst 0, 1) := by decide +kernel
theorem dX12_grammar_2 : decode cX12_grammar 2 = .ok (.putfield 59, 3) := by decide +kernel
theorem dX12_grammar_5 : decode cX12_grammar 5 = .ok (.iload_n 1, 1) := by decide +kernel
theorem dX12_grammar_6 : decode cX12_grammar 6 = .ok (.i2l, 1) := by decide +kernel
theorem dX12_grammar_7 : decode cX12_grammar 7 = .ok (.lconst 0, 1) := by decide +kernel
theorem dX12_grammar_8 : decode cX12_grammar 8 = .ok (.ldc2_w 98, 3) := by decide +kernel
theorem dX12_grammar_11 : decode cX12_grammar 11 = .ok (.invokestatic 64, 3) := by decide +kernel
theorem dX12_grammar_14 : decode cX12_grammar 14 = .ok (.ifCond .ne 5, 3) := by decide +kernel
theorem dX12_grammar_17 : decode cX12_grammar 17 = .ok (.iconst (-1), 1) := by decide +kernel
theorem dX12_grammar_18 : decode cX12_grammar 18 = .ok (.ireturn, 1) := by decide +kernel
theorem dX12_grammar_19 : decode cX12_grammar 19 = .ok (.aload_n 0, 1) := by decide +kernel
theorem dX12_grammar_20 : decode cX12_grammar 20 = .ok (.invokevirtual 203, 3) := by decide +kernel
theorem dX12_grammar_23 : decode cX12_grammar 23 = .ok (.iload_n 1, 1) := by decide +kernel
theorem dX12_grammar_24 : decode cX12_grammar 24 = .ok (.ifCond .ne 17, 3) := by decide +kernel
theorem dX12_grammar_27 : decode cX12_grammar 27 = .ok (.aload_n 0, 1) := by decide +kernel
theorem dX12_grammar_28 : decode cX12_grammar 28 = .ok (.getfield 187, 3) := by decide +kernel
theorem dX12_grammar_31 : decode cX12_grammar 31 = .ok (.iconst 2, 1) := by decide +kernel
theorem dX12_grammar_32 : decode cX12_grammar 32 = .ok (.aload_n 0, 1) := by decide +kernel
theorem dX12_grammar_33 : decode cX12_grammar 33 = .ok (.getfield 197, 3) := by decide +kernel
theorem dX12_grammar_36 : decode cX12_grammar 36 = .ok (.imul, 1) := by decide +kernel
theorem dX12_grammar_37 : decode cX12_grammar 37 = .ok (.iadd, 1) := by decide +kernel
theorem dX12_grammar_38 : decode cX12_grammar 38 = .ok (.goto 19, 3) := by decide +kernel
theorem dX12_grammar_41 : decode cX12_grammar 41 = .ok (.iload_n 1, 1) := by decide +kernel
theorem dX12_grammar_42 : decode cX12_grammar 42 = .ok (.iconst 1, 1) := by decide +kernel
theorem dX12_grammar_43 : decode cX12_grammar 43 = .ok (.if_icmp .ne 10, 3) := by decide +kernel
theorem dX12_grammar_46 : decode cX12_grammar 46 = .ok (.aload_n 0, 1) := by decide +kernel
theorem dX12_grammar_47 : decode cX12_grammar 47 = .ok (.getfield 197, 3) := by decide +kernel
theorem dX12_grammar_50 : decode cX12_grammar 50 = .ok (.goto 7, 3) := by decide +kernel
theorem dX12_grammar_53 : decode cX12_grammar 53 = .ok (.aload_n 0, 1) := by decide +kernel
theorem dX12_grammar_54 : decode cX12_grammar 54 = .ok (.getfield 187, 3) := by decide +kernel
theorem dX12_grammar_57 : decode cX12_grammar 57 = .ok (.ireturn, 1) := by decide +kernel
theorem dX12_rule_0 : decode cX12_rule 0 = .ok (.aload_n 0, 1) := by decide +kernel
theorem dX12_rule_1 : decode cX12_rule 1 = .ok (.iconst 0, 1) := by decide +kernel
theorem dX12_rule_2 : decode cX12_rule 2 = .ok (.putfield 59, 3) := by decide +kernel
theorem dX12_rule_5 : decode cX12_rule 5 = .ok (.iload_n 2, 1) := by decide +kernel
theorem dX12_rule_6 : decode cX12_rule 6 = .ok (.invokestatic 155, 3) := by decide +kernel
theorem dX12_rule_9 : decode cX12_rule 9 = .ok (.ifCond .ne 5, 3) := by decide +kernel
theorem dX12_rule_12 : decode cX12_rule 12 = .ok (.iconst (-1), 1) := by decide +kernel
theorem dX12_rule_13 : decode cX12_rule 13 = .ok (.ireturn, 1) := by decide +kernel
theorem dX12_rule_14 : decode cX12_rule 14 = .ok (.aload_n 0, 1) := by decide +kernel
theorem dX12_rule_15 : decode cX12_rule 15 = .ok (.invokevirtual 203, 3) := by decide +kernel
theorem dX12_rule_18 : decode cX12_rule 18 = .ok (.iload_n 1, 1) := by decide +kernel
theorem dX12_rule_19 : decode cX12_rule 19 = .ok (.i2l, 1) := by decide +kernel
theorem dX12_rule_20 : decode cX12_rule 20 = .ok (.ldc2_w 206, 3) := by decide +kernel
theorem dX12_rule_23 : decode cX12_rule 23 = .ok (.bipush 16, 2) := by decide +kernel
theorem dX12_rule_25 : decode cX12_rule 25 = .ok (.aload_n 0, 1) := by decide +kernel
theorem dX12_rule_26 : decode cX12_rule 26 = .ok (.getfield 197, 3) := by decide +kernel
theorem dX12_rule_29 : decode cX12_rule 29 = .ok (.iadd, 1) := by decide +kernel
theorem dX12_rule_30 : decode cX12_rule 30 = .ok (.iconst 1, 1) := by decide +kernel
theorem dX12_rule_31 : decode cX12_rule 31 = .ok (.isub, 1) := by decide +kernel
theorem dX12_rule_32 : decode cX12_rule 32 = .ok (.i2l, 1) := by decide +kernel
theorem dX12_rule_33 : decode cX12_rule 33 = .ok (.invokestatic 64, 3) := by decide +kernel
theorem dX12_rule_36 : decode cX12_rule 36 = .ok (.ifCond .ne 5, 3) := by decide +kernel
theorem dX12_rule_39 : decode cX12_rule 39 = .ok (.iconst (-1), 1) := by decide +kernel
theorem dX12_rule_40 : decode cX12_rule 40 = .ok (.ireturn, 1) := by decide +kernel
theorem dX12_rule_41 : decode cX12_rule 41 = .ok (.iload_n 2, 1) := by decide +kernel
theorem dX12_rule_42 : decode cX12_rule 42 = .ok (.ifCond .ne 15, 3) := by decide +kernel
theorem dX12_rule_45 : decode cX12_rule 45 = .ok (.aload_n 0, 1) := by decide +kernel
theorem dX12_rule_46 : decode cX12_rule 46 = .ok (.getfield 46, 3) := by decide +kernel
theorem dX12_rule_49 : decode cX12_rule 49 = .ok (.iload_n 1, 1) := by decide +kernel
theorem dX12_rule_50 : decode cX12_rule 50 = .ok (.bipush 16, 2) := by decide +kernel
theorem dX12_rule_52 : decode cX12_rule 52 = .ok (.isub, 1) := by decide +kernel
theorem dX12_rule_53 : decode cX12_rule 53 = .ok (.iaload, 1) := by decide +kernel
theorem dX12_rule_54 : decode cX12_rule 54 = .ok (.goto 12, 3) := by decide +kernel
theorem dX12_rule_57 : decode cX12_rule 57 = .ok (.aload_n 0, 1) := by decide +kernel
theorem dX12_rule_58 : decode cX12_rule 58 = .ok (.getfield 49, 3) := by decide +kernel
theorem dX12_rule_61 : decode cX12_rule 61 = .ok (.iload_n 1, 1) := by decide +kernel
theorem dX12_rule_62 : decode cX12_rule 62 = .ok (.bipush 16, 2) := by decide +kernel
theorem dX12_rule_64 : decode cX12_rule 64 = .ok (.isub, 1) := by decide +kernel
theorem dX12_rule_65 : decode cX12_rule 65 = .ok (.iaload, 1) := by decide +kernel
theorem dX12_rule_66 : decode cX12_rule 66 = .ok (.ireturn, 1) := by decide +kernel
theorem dX12_symbol_0 : decode cX12_symbol 0 = .ok (.aload_n 0, 1) := by decide +kernel
theorem dX12_symbol_1 : decode cX12_symbol 1 = .ok (.invokevirtual 203, 3) := by decide +kernel
theorem dX12_symbol_4 : decode cX12_symbol 4 = .ok (.aload_n 0, 1) := by decide +kernel
theorem dX12_symbol_5 : decode cX12_symbol 5 = .ok (.iload_n 1, 1) := by decide +kernel
theorem dX12_symbol_6 : decode cX12_symbol 6 = .ok (.i2l, 1) := by decide +kernel
theorem dX12_symbol_7 : decode cX12_symbol 7 = .ok (.lconst 0, 1) := by decide +kernel
theorem dX12_symbol_8 : decode cX12_symbol 8 = .ok (.aload_n 0, 1) := by decide +kernel
theorem dX12_symbol_9 : decode cX12_symbol 9 = .ok (.getfield 187, 3) := by decide +kernel
theorem dX12_symbol_12 : decode cX12_symbol 12 = .ok (.iconst 1, 1) := by decide +kernel
theorem dX12_symbol_13 : decode cX12_symbol 13 = .ok (.isub, 1) := by decide +kernel
theorem dX12_symbol_14 : decode cX12_symbol 14 = .ok (.i2l, 1) := by decide +kernel
theorem dX12_symbol_15 : decode cX12_symbol 15 = .ok (.invokestatic 64, 3) := by decide +kernel
theorem dX12_symbol_18 : decode cX12_symbol 18 = .ok (.ifCond .eq 7, 3) := by decide +kernel
theorem dX12_symbol_21 : decode cX12_symbol 21 = .ok (.iconst 0, 1) := by decide +kernel
theorem dX12_symbol_22 : decode cX12_symbol 22 = .ok (.goto 4, 3) := by decide +kernel
theorem dX12_symbol_25 : decode cX12_symbol 25 = .ok (.iconst 1, 1) := by decide +kernel
theorem dX12_symbol_26 : decode cX12_symbol 26 = .ok (.putfield 59, 3) := by decide +kernel
theorem dX12_symbol_29 : decode cX12_symbol 29 = .ok (.aload_n 0, 1) := by decide +kernel
theorem dX12_symbol_30 : decode cX12_symbol 30 = .ok (.getfield 59, 3) := by decide +kernel
theorem dX12_symbol_33 : decode cX12_symbol 33 = .ok (.ifCond .ne 12, 3) := by decide +kernel
theorem dX12_symbol_36 : decode cX12_symbol 36 = .ok (.aload_n 0, 1) := by decide +kernel
theorem dX12_symbol_37 : decode cX12_symbol 37 = .ok (.getfield 43, 3) := by decide +kernel
theorem dX12_symbol_40 : decode cX12_symbol 40 = .ok (.iload_n 1, 1) := by decide +kernel
theorem dX12_symbol_41 : decode cX12_symbol 41 = .ok (.iaload, 1) := by decide +kernel
theorem dX12_symbol_42 : decode cX12_symbol 42 = .ok (.goto 4, 3) := by decide +kernel
theorem dX12_symbol_45 : decode cX12_symbol 45 = .ok (.iconst 0, 1) := by decide +kernel
theorem dX12_symbol_46 : decode cX12_symbol 46 = .ok (.ireturn, 1) := by decide +kernel
end
section
theorem dL_share_0 : decode cL_share 0 = .ok (.aload_n 2, 1) := by decide +kernel
theorem dL_share_1 : decode cL_share 1 = .ok (.iconst 0, 1) := by decide +kernel
theorem dL_share_2 : decode cL_share 2 = .ok (.aload_n 0, 1) := by decide +kernel
theorem dL_share_3 : decode cL_share 3 = .ok (.iload_n 1, 1) := by decide +kernel
theorem dL_share_4 : decode cL_share 4 = .ok (.invokevirtual 7, 3) := by decide +kernel
theorem dL_share_7 : decode cL_share 7 = .ok (.lastore, 1) := by decide +kernel
theorem dL_share_8 : decode cL_share 8 = .ok (.goto 9, 3) := by decide +kernel
theorem dL_share_11 : decode cL_share 11 = .ok (.astore_n 3, 1) := by decide +kernel
theorem dL_share_12 : decode cL_share 12 = .ok (.iconst 1, 1) := by decide +kernel
theorem dL_share_13 : decode cL_share 13 = .ok (.ireturn, 1) := by decide +kernel
theorem dL_share_14 : decode cL_share 14 = .ok (.astore_n 3, 1) := by decide +kernel
theorem dL_share_15 : decode cL_share 15 = .ok (.iconst 2, 1) := by decide +kernel
theorem dL_share_16 : decode cL_share 16 = .ok (.ireturn, 1) := by decide +kernel
theorem dL_share_17 : decode cL_share 17 = .ok (.iconst 0, 1) := by decide +kernel
theorem dL_share_18 : decode cL_share 18 = .ok (.ireturn, 1) := by decide +kernel
theorem dL_symbol_0 : decode cL_symbol 0 = .ok (.aload_n 2, 1) := by decide +kernel
theorem dL_symbol_1 : decode cL_symbol 1 = .ok (.iconst 0, 1) := by decide +kernel
theorem dL_symbol_2 : decode cL_symbol 2 = .ok (.aload_n 0, 1) := by decide +kernel
theorem dL_symbol_3 : decode cL_symbol 3 = .ok (.iload_n 1, 1) := by decide +kernel
theorem dL_symbol_4 : decode cL_symbol 4 = .ok (.invokevirtual 17, 3) := by decide +kernel
theorem dL_symbol_7 : decode cL_symbol 7 = .ok (.i2l, 1) := by decide +kernel
theorem dL_symbol_8 : decode cL_symbol 8 = .ok (.lastore, 1) := by decide +kernel
theorem dL_symbol_9 : decode cL_symbol 9 = .ok (.goto 6, 3) := by decide +kernel
theorem dL_symbol_12 : decode cL_symbol 12 = .ok (.astore_n 3, 1) := by decide +kernel
theorem dL_symbol_13 : decode cL_symbol 13 = .ok (.iconst 1, 1) := by decide +kernel
theorem dL_symbol_14 : decode cL_symbol 14 = .ok (.ireturn, 1) := by decide +kernel
theorem dL_symbol_15 : decode cL_symbol 15 = .ok (.iconst 0, 1) := by decide +kernel
theorem dL_symbol_16 : decode cL_symbol 16 = .ok (.ireturn, 1) := by decide +kernel
theorem dL_law_0 : decode cL_law 0 = .ok (.new 8, 3) := by decide +kernel
theorem dL_law_3 : decode cL_law 3 = .ok (.dup, 1) := by decide +kernel
theorem dL_law_4 : decode cL_law 4 = .ok (.invokespecial 21, 3) := by decide +kernel
theorem dL_law_7 : decode cL_law 7 = .ok (.astore_n 1, 1) := by decide +kernel
theorem dL_law_8 : decode cL_law 8 = .ok (.new 22, 3) := by decide +kernel
theorem dL_law_11 : decode cL_law 11 = .ok (.dup, 1) := by decide +kernel
theorem dL_law_12 : decode cL_law 12 = .ok (.invokespecial 24, 3) := by decide +kernel
theorem dL_law_15 : decode cL_law 15 = .ok (.astore_n 2, 1) := by decide +kernel
theorem dL_law_16 : decode cL_law 16 = .ok (.iconst 1, 1) := by decide +kernel
theorem dL_law_17 : decode cL_law 17 = .ok (.newarray .long, 2) := by decide +kernel
theorem dL_law_19 : decode cL_law 19 = .ok (.astore_n 3, 1) := by decide +kernel
theorem dL_law_20 : decode cL_law 20 = .ok (.iconst 0, 1) := by decide +kernel
theorem dL_law_21 : decode cL_law 21 = .ok (.istore 4, 2) := by decide +kernel
theorem dL_law_23 : decode cL_law 23 = .ok (.iload 4, 2) := by decide +kernel
theorem dL_law_25 : decode cL_law 25 = .ok (.aload_n 0, 1) := by decide +kernel
theorem dL_law_26 : decode cL_law 26 = .ok (.arraylength, 1) := by decide +kernel
theorem dL_law_27 : decode cL_law 27 = .ok (.iconst 4, 1) := by decide +kernel
theorem dL_law_28 : decode cL_law 28 = .ok (.isub, 1) := by decide +kernel
theorem dL_law_29 : decode cL_law 29 = .ok (.if_icmp .gt 734, 3) := by decide +kernel
theorem dL_law_32 : decode cL_law 32 = .ok (.aload_n 0, 1) := by decide +kernel
theorem dL_law_33 : decode cL_law 33 = .ok (.iload 4, 2) := by decide +kernel
theorem dL_law_35 : decode cL_law 35 = .ok (.iaload, 1) := by decide +kernel
theorem dL_law_36 : decode cL_law 36 = .ok (.bipush 31, 2) := by decide +kernel
theorem dL_law_38 : decode cL_law 38 = .ok (.iand, 1) := by decide +kernel
theorem dL_law_39 : decode cL_law 39 = .ok (.tableswitch 718 0 17 #[85, 110, 123, 148, 185, 222, 272, 309, 364, 414, 451, 488, 513, 538, 587, 612, 649, 705], 85) := by decide +kernel
theorem dL_law_124 : decode cL_law 124 = .ok (.aload_n 1, 1) := by decide +kernel
theorem dL_law_125 : decode cL_law 125 = .ok (.aload_n 0, 1) := by decide +kernel
theorem dL_law_126 : decode cL_law 126 = .ok (.iload 4, 2) := by decide +kernel
theorem dL_law_128 : decode cL_law 128 = .ok (.iconst 1, 1) := by decide +kernel
theorem dL_law_129 : decode cL_law 129 = .ok (.iadd, 1) := by decide +kernel
theorem dL_law_130 : decode cL_law 130 = .ok (.iaload, 1) := by decide +kernel
theorem dL_law_131 : decode cL_law 131 = .ok (.invokevirtual 25, 3) := by decide +kernel
theorem dL_law_134 : decode cL_law 134 = .ok (.aload_n 2, 1) := by decide +kernel
theorem dL_law_135 : decode cL_law 135 = .ok (.aload_n 0, 1) := by decide +kernel
theorem dL_law_136 : decode cL_law 136 = .ok (.iload 4, 2) := by decide +kernel
theorem dL_law_138 : decode cL_law 138 = .ok (.iconst 1, 1) := by decide +kernel
theorem dL_law_139 : decode cL_law 139 = .ok (.iadd, 1) := by decide +kernel
theorem dL_law_140 : decode cL_law 140 = .ok (.iaload, 1) := by decide +kernel
theorem dL_law_141 : decode cL_law 141 = .ok (.invokevirtual 28, 3) := by decide +kernel
theorem dL_law_144 : decode cL_law 144 = .ok (.if_icmp .eq 613, 3) := by decide +kernel
theorem dL_law_147 : decode cL_law 147 = .ok (.iconst 0, 1) := by decide +kernel
theorem dL_law_148 : decode cL_law 148 = .ok (.ireturn, 1) := by decide +kernel
theorem dL_law_149 : decode cL_law 149 = .ok (.aload_n 1, 1) := by decide +kernel
theorem dL_law_150 : decode cL_law 150 = .ok (.invokevirtual 29, 3) := by decide +kernel
theorem dL_law_153 : decode cL_law 153 = .ok (.aload_n 2, 1) := by decide +kernel
theorem dL_law_154 : decode cL_law 154 = .ok (.invokevirtual 33, 3) := by decide +kernel
theorem dL_law_157 : decode cL_law 157 = .ok (.if_icmp .eq 600, 3) := by decide +kernel
theorem dL_law_160 : decode cL_law 160 = .ok (.iconst 0, 1) := by decide +kernel
theorem dL_law_161 : decode cL_law 161 = .ok (.ireturn, 1) := by decide +kernel
theorem dL_law_162 : decode cL_law 162 = .ok (.aload_n 1, 1) := by decide +kernel
theorem dL_law_163 : decode cL_law 163 = .ok (.aload_n 0, 1) := by decide +kernel
theorem dL_law_164 : decode cL_law 164 = .ok (.iload 4, 2) := by decide +kernel
theorem dL_law_166 : decode cL_law 166 = .ok (.iconst 1, 1) := by decide +kernel
theorem dL_law_167 : decode cL_law 167 = .ok (.iadd, 1) := by decide +kernel
theorem dL_law_168 : decode cL_law 168 = .ok (.iaload, 1) := by decide +kernel
theorem dL_law_169 : decode cL_law 169 = .ok (.invokevirtual 34, 3) := by decide +kernel
theorem dL_law_172 : decode cL_law 172 = .ok (.aload_n 2, 1) := by decide +kernel
theorem dL_law_173 : decode cL_law 173 = .ok (.aload_n 0, 1) := by decide +kernel
theorem dL_law_174 : decode cL_law 174 = .ok (.iload 4, 2) := by decide +kernel
theorem dL_law_176 : decode cL_law 176 = .ok (.iconst 1, 1) := by decide +kernel
theorem dL_law_177 : decode cL_law 177 = .ok (.iadd, 1) := by decide +kernel
theorem dL_law_178 : decode cL_law 178 = .ok (.iaload, 1) := by decide +kernel
theorem dL_law_179 : decode cL_law 179 = .ok (.invokevirtual 37, 3) := by decide +kernel
theorem dL_law_182 : decode cL_law 182 = .ok (.if_icmp .eq 575, 3) := by decide +kernel
theorem dL_law_185 : decode cL_law 185 = .ok (.iconst 0, 1) := by decide +kernel
theorem dL_law_186 : decode cL_law 186 = .ok (.ireturn, 1) := by decide +kernel
theorem dL_law_187 : decode cL_law 187 = .ok (.aload_n 1, 1) := by decide +kernel
theorem dL_law_188 : decode cL_law 188 = .ok (.aload_n 0, 1) := by decide +kernel
theorem dL_law_189 : decode cL_law 189 = .ok (.iload 4, 2) := by decide +kernel
theorem dL_law_191 : decode cL_law 191 = .ok (.iconst 1, 1) := by decide +kernel
theorem dL_law_192 : decode cL_law 192 = .ok (.iadd, 1) := by decide +kernel
theorem dL_law_193 : decode cL_law 193 = .ok (.iaload, 1) := by decide +kernel
theorem dL_law_194 : decode cL_law 194 = .ok (.aload_n 0, 1) := by decide +kernel
theorem dL_law_195 : decode cL_law 195 = .ok (.iload 4, 2) := by decide +kernel
theorem dL_law_197 : decode cL_law 197 = .ok (.iconst 2, 1) := by decide +kernel
theorem dL_law_198 : decode cL_law 198 = .ok (.iadd, 1) := by decide +kernel
theorem dL_law_199 : decode cL_law 199 = .ok (.iaload, 1) := by decide +kernel
theorem dL_law_200 : decode cL_law 200 = .ok (.invokevirtual 38, 3) := by decide +kernel
theorem dL_law_203 : decode cL_law 203 = .ok (.aload_n 2, 1) := by decide +kernel
theorem dL_law_204 : decode cL_law 204 = .ok (.aload_n 0, 1) := by decide +kernel
theorem dL_law_205 : decode cL_law 205 = .ok (.iload 4, 2) := by decide +kernel
theorem dL_law_207 : decode cL_law 207 = .ok (.iconst 1, 1) := by decide +kernel
theorem dL_law_208 : decode cL_law 208 = .ok (.iadd, 1) := by decide +kernel
theorem dL_law_209 : decode cL_law 209 = .ok (.iaload, 1) := by decide +kernel
theorem dL_law_210 : decode cL_law 210 = .ok (.aload_n 0, 1) := by decide +kernel
theorem dL_law_211 : decode cL_law 211 = .ok (.iload 4, 2) := by decide +kernel
theorem dL_law_213 : decode cL_law 213 = .ok (.iconst 2, 1) := by decide +kernel
theorem dL_law_214 : decode cL_law 214 = .ok (.iadd, 1) := by decide +kernel
theorem dL_law_215 : decode cL_law 215 = .ok (.iaload, 1) := by decide +kernel
theorem dL_law_216 : decode cL_law 216 = .ok (.invokevirtual 42, 3) := by decide +kernel
theorem dL_law_219 : decode cL_law 219 = .ok (.if_icmp .eq 538, 3) := by decide +kernel
theorem dL_law_222 : decode cL_law 222 = .ok (.iconst 0, 1) := by decide +kernel
theorem dL_law_223 : decode cL_law 223 = .ok (.ireturn, 1) := by decide +kernel
theorem dL_law_224 : decode cL_law 224 = .ok (.aload_n 1, 1) := by decide +kernel
theorem dL_law_225 : decode cL_law 225 = .ok (.aload_n 0, 1) := by decide +kernel
theorem dL_law_226 : decode cL_law 226 = .ok (.iload 4, 2) := by decide +kernel
theorem dL_law_228 : decode cL_law 228 = .ok (.iconst 1, 1) := by decide +kernel
theorem dL_law_229 : decode cL_law 229 = .ok (.iadd, 1) := by decide +kernel
theorem dL_law_230 : decode cL_law 230 = .ok (.iaload, 1) := by decide +kernel
theorem dL_law_231 : decode cL_law 231 = .ok (.aload_n 0, 1) := by decide +kernel
theorem dL_law_232 : decode cL_law 232 = .ok (.iload 4, 2) := by decide +kernel
theorem dL_law_234 : decode cL_law 234 = .ok (.iconst 2, 1) := by decide +kernel
theorem dL_law_235 : decode cL_law 235 = .ok (.iadd, 1) := by decide +kernel
theorem dL_law_236 : decode cL_law 236 = .ok (.iaload, 1) := by decide +kernel
theorem dL_law_237 : decode cL_law 237 = .ok (.invokevirtual 43, 3) := by decide +kernel
theorem dL_law_240 : decode cL_law 240 = .ok (.aload_n 2, 1) := by decide +kernel
theorem dL_law_241 : decode cL_law 241 = .ok (.aload_n 0, 1) := by decide +kernel
theorem dL_law_242 : decode cL_law 242 = .ok (.iload 4, 2) := by decide +kernel
theorem dL_law_244 : decode cL_law 244 = .ok (.iconst 1, 1) := by decide +kernel
theorem dL_law_245 : decode cL_law 245 = .ok (.iadd, 1) := by decide +kernel
theorem dL_law_246 : decode cL_law 246 = .ok (.iaload, 1) := by decide +kernel
theorem dL_law_247 : decode cL_law 247 = .ok (.aload_n 0, 1) := by decide +kernel
theorem dL_law_248 : decode cL_law 248 = .ok (.iload 4, 2) := by decide +kernel
theorem dL_law_250 : decode cL_law 250 = .ok (.iconst 2, 1) := by decide +kernel
theorem dL_law_251 : decode cL_law 251 = .ok (.iadd, 1) := by decide +kernel
theorem dL_law_252 : decode cL_law 252 = .ok (.iaload, 1) := by decide +kernel
theorem dL_law_253 : decode cL_law 253 = .ok (.invokevirtual 46, 3) := by decide +kernel
theorem dL_law_256 : decode cL_law 256 = .ok (.if_icmp .eq 501, 3) := by decide +kernel
theorem dL_law_259 : decode cL_law 259 = .ok (.iconst 0, 1) := by decide +kernel
theorem dL_law_260 : decode cL_law 260 = .ok (.ireturn, 1) := by decide +kernel
theorem dL_law_261 : decode cL_law 261 = .ok (.aload_n 1, 1) := by decide +kernel
theorem dL_law_262 : decode cL_law 262 = .ok (.aload_n 0, 1) := by decide +kernel
theorem dL_law_263 : decode cL_law 263 = .ok (.iload 4, 2) := by decide +kernel
theorem dL_law_265 : decode cL_law 265 = .ok (.iconst 1, 1) := by decide +kernel
theorem dL_law_266 : decode cL_law 266 = .ok (.iadd, 1) := by decide +kernel
theorem dL_law_267 : decode cL_law 267 = .ok (.iaload, 1) := by decide +kernel
theorem dL_law_268 : decode cL_law 268 = .ok (.aload_n 0, 1) := by decide +kernel
theorem dL_law_269 : decode cL_law 269 = .ok (.iload 4, 2) := by decide +kernel
theorem dL_law_271 : decode cL_law 271 = .ok (.iconst 2, 1) := by decide +kernel
theorem dL_law_272 : decode cL_law 272 = .ok (.iadd, 1) := by decide +kernel
theorem dL_law_273 : decode cL_law 273 = .ok (.iaload, 1) := by decide +kernel
theorem dL_law_274 : decode cL_law 274 = .ok (.aload_n 0, 1) := by decide +kernel
theorem dL_law_275 : decode cL_law 275 = .ok (.iload 4, 2) := by decide +kernel
theorem dL_law_277 : decode cL_law 277 = .ok (.iconst 3, 1) := by decide +kernel
theorem dL_law_278 : decode cL_law 278 = .ok (.iadd, 1) := by decide +kernel
theorem dL_law_279 : decode cL_law 279 = .ok (.iaload, 1) := by decide +kernel
theorem dL_law_280 : decode cL_law 280 = .ok (.invokevirtual 47, 3) := by decide +kernel
theorem dL_law_283 : decode cL_law 283 = .ok (.aload_n 2, 1) := by decide +kernel
theorem dL_law_284 : decode cL_law 284 = .ok (.aload_n 0, 1) := by decide +kernel
theorem dL_law_285 : decode cL_law 285 = .ok (.iload 4, 2) := by decide +kernel
theorem dL_law_287 : decode cL_law 287 = .ok (.iconst 1, 1) := by decide +kernel
theorem dL_law_288 : decode cL_law 288 = .ok (.iadd, 1) := by decide +kernel
theorem dL_law_289 : decode cL_law 289 = .ok (.iaload, 1) := by decide +kernel
theorem dL_law_290 : decode cL_law 290 = .ok (.aload_n 0, 1) := by decide +kernel
theorem dL_law_291 : decode cL_law 291 = .ok (.iload 4, 2) := by decide +kernel
theorem dL_law_293 : decode cL_law 293 = .ok (.iconst 2, 1) := by decide +kernel
theorem dL_law_294 : decode cL_law 294 = .ok (.iadd, 1) := by decide +kernel
theorem dL_law_295 : decode cL_law 295 = .ok (.iaload, 1) := by decide +kernel
theorem dL_law_296 : decode cL_law 296 = .ok (.aload_n 0, 1) := by decide +kernel
theorem dL_law_297 : decode cL_law 297 = .ok (.iload 4, 2) := by decide +kernel
theorem dL_law_299 : decode cL_law 299 = .ok (.iconst 3, 1) := by decide +kernel
theorem dL_law_300 : decode cL_law 300 = .ok (.iadd, 1) := by decide +kernel
theorem dL_law_301 : decode cL_law 301 = .ok (.iaload, 1) := by decide +kernel
theorem dL_law_302 : decode cL_law 302 = .ok (.invokevirtual 51, 3) := by decide +kernel
theorem dL_law_305 : decode cL_law 305 = .ok (.lcmp, 1) := by decide +kernel
theorem dL_law_306 : decode cL_law 306 = .ok (.ifCond .eq 451, 3) := by decide +kernel
theorem dL_law_309 : decode cL_law 309 = .ok (.iconst 0, 1) := by decide +kernel
theorem dL_law_310 : decode cL_law 310 = .ok (.ireturn, 1) := by decide +kernel
theorem dL_law_311 : decode cL_law 311 = .ok (.aload_n 1, 1) := by decide +kernel
theorem dL_law_312 : decode cL_law 312 = .ok (.aload_n 0, 1) := by decide +kernel
theorem dL_law_313 : decode cL_law 313 = .ok (.iload 4, 2) := by decide +kernel
theorem dL_law_315 : decode cL_law 315 = .ok (.iconst 1, 1) := by decide +kernel
theorem dL_law_316 : decode cL_law 316 = .ok (.iadd, 1) := by decide +kernel
theorem dL_law_317 : decode cL_law 317 = .ok (.iaload, 1) := by decide +kernel
theorem dL_law_318 : decode cL_law 318 = .ok (.aload_n 0, 1) := by decide +kernel
theorem dL_law_319 : decode cL_law 319 = .ok (.iload 4, 2) := by decide +kernel
theorem dL_law_321 : decode cL_law 321 = .ok (.iconst 2, 1) := by decide +kernel
theorem dL_law_322 : decode cL_law 322 = .ok (.iadd, 1) := by decide +kernel
theorem dL_law_323 : decode cL_law 323 = .ok (.iaload, 1) := by decide +kernel
theorem dL_law_324 : decode cL_law 324 = .ok (.invokevirtual 52, 3) := by decide +kernel
theorem dL_law_327 : decode cL_law 327 = .ok (.aload_n 2, 1) := by decide +kernel
theorem dL_law_328 : decode cL_law 328 = .ok (.aload_n 0, 1) := by decide +kernel
theorem dL_law_329 : decode cL_law 329 = .ok (.iload 4, 2) := by decide +kernel
theorem dL_law_331 : decode cL_law 331 = .ok (.iconst 1, 1) := by decide +kernel
theorem dL_law_332 : decode cL_law 332 = .ok (.iadd, 1) := by decide +kernel
theorem dL_law_333 : decode cL_law 333 = .ok (.iaload, 1) := by decide +kernel
theorem dL_law_334 : decode cL_law 334 = .ok (.aload_n 0, 1) := by decide +kernel
theorem dL_law_335 : decode cL_law 335 = .ok (.iload 4, 2) := by decide +kernel
theorem dL_law_337 : decode cL_law 337 = .ok (.iconst 2, 1) := by decide +kernel
theorem dL_law_338 : decode cL_law 338 = .ok (.iadd, 1) := by decide +kernel
theorem dL_law_339 : decode cL_law 339 = .ok (.iaload, 1) := by decide +kernel
theorem dL_law_340 : decode cL_law 340 = .ok (.invokevirtual 55, 3) := by decide +kernel
theorem dL_law_343 : decode cL_law 343 = .ok (.if_icmp .eq 414, 3) := by decide +kernel
theorem dL_law_346 : decode cL_law 346 = .ok (.iconst 0, 1) := by decide +kernel
theorem dL_law_347 : decode cL_law 347 = .ok (.ireturn, 1) := by decide +kernel
theorem dL_law_348 : decode cL_law 348 = .ok (.aload_n 1, 1) := by decide +kernel
theorem dL_law_349 : decode cL_law 349 = .ok (.aload_n 0, 1) := by decide +kernel
theorem dL_law_350 : decode cL_law 350 = .ok (.iload 4, 2) := by decide +kernel
theorem dL_law_352 : decode cL_law 352 = .ok (.iconst 1, 1) := by decide +kernel
theorem dL_law_353 : decode cL_law 353 = .ok (.iadd, 1) := by decide +kernel
theorem dL_law_354 : decode cL_law 354 = .ok (.iaload, 1) := by decide +kernel
theorem dL_law_355 : decode cL_law 355 = .ok (.aload_n 3, 1) := by decide +kernel
theorem dL_law_356 : decode cL_law 356 = .ok (.invokestatic 56, 3) := by decide +kernel
theorem dL_law_359 : decode cL_law 359 = .ok (.istore 5, 2) := by decide +kernel
theorem dL_law_361 : decode cL_law 361 = .ok (.aload_n 2, 1) := by decide +kernel
theorem dL_law_362 : decode cL_law 362 = .ok (.aload_n 0, 1) := by decide +kernel
theorem dL_law_363 : decode cL_law 363 = .ok (.iload 4, 2) := by decide +kernel
theorem dL_law_365 : decode cL_law 365 = .ok (.iconst 1, 1) := by decide +kernel
theorem dL_law_366 : decode cL_law 366 = .ok (.iadd, 1) := by decide +kernel
theorem dL_law_367 : decode cL_law 367 = .ok (.iaload, 1) := by decide +kernel
theorem dL_law_368 : decode cL_law 368 = .ok (.invokevirtual 61, 3) := by decide +kernel
theorem dL_law_371 : decode cL_law 371 = .ok (.lstore 6, 2) := by decide +kernel
theorem dL_law_373 : decode cL_law 373 = .ok (.aload_n 2, 1) := by decide +kernel
theorem dL_law_374 : decode cL_law 374 = .ok (.invokevirtual 62, 3) := by decide +kernel
theorem dL_law_377 : decode cL_law 377 = .ok (.iload 5, 2) := by decide +kernel
theorem dL_law_379 : decode cL_law 379 = .ok (.if_icmp .eq 5, 3) := by decide +kernel
theorem dL_law_382 : decode cL_law 382 = .ok (.iconst 0, 1) := by decide +kernel
theorem dL_law_383 : decode cL_law 383 = .ok (.ireturn, 1) := by decide +kernel
theorem dL_law_384 : decode cL_law 384 = .ok (.iload 5, 2) := by decide +kernel
theorem dL_law_386 : decode cL_law 386 = .ok (.ifCond .ne 14, 3) := by decide +kernel
theorem dL_law_389 : decode cL_law 389 = .ok (.aload_n 3, 1) := by decide +kernel
theorem dL_law_390 : decode cL_law 390 = .ok (.iconst 0, 1) := by decide +kernel
theorem dL_law_391 : decode cL_law 391 = .ok (.laload, 1) := by decide +kernel
theorem dL_law_392 : decode cL_law 392 = .ok (.lload 6, 2) := by decide +kernel
theorem dL_law_394 : decode cL_law 394 = .ok (.lcmp, 1) := by decide +kernel
theorem dL_law_395 : decode cL_law 395 = .ok (.ifCond .eq 5, 3) := by decide +kernel
theorem dL_law_398 : decode cL_law 398 = .ok (.iconst 0, 1) := by decide +kernel
theorem dL_law_399 : decode cL_law 399 = .ok (.ireturn, 1) := by decide +kernel
theorem dL_law_400 : decode cL_law 400 = .ok (.goto 357, 3) := by decide +kernel
theorem dL_law_403 : decode cL_law 403 = .ok (.aload_n 1, 1) := by decide +kernel
theorem dL_law_404 : decode cL_law 404 = .ok (.aload_n 0, 1) := by decide +kernel
theorem dL_law_405 : decode cL_law 405 = .ok (.iload 4, 2) := by decide +kernel
theorem dL_law_407 : decode cL_law 407 = .ok (.iconst 1, 1) := by decide +kernel
theorem dL_law_408 : decode cL_law 408 = .ok (.iadd, 1) := by decide +kernel
theorem dL_law_409 : decode cL_law 409 = .ok (.iaload, 1) := by decide +kernel
theorem dL_law_410 : decode cL_law 410 = .ok (.aload_n 0, 1) := by decide +kernel
theorem dL_law_411 : decode cL_law 411 = .ok (.iload 4, 2) := by decide +kernel
theorem dL_law_413 : decode cL_law 413 = .ok (.iconst 2, 1) := by decide +kernel
theorem dL_law_414 : decode cL_law 414 = .ok (.iadd, 1) := by decide +kernel
theorem dL_law_415 : decode cL_law 415 = .ok (.iaload, 1) := by decide +kernel
theorem dL_law_416 : decode cL_law 416 = .ok (.aload_n 0, 1) := by decide +kernel
theorem dL_law_417 : decode cL_law 417 = .ok (.iload 4, 2) := by decide +kernel
theorem dL_law_419 : decode cL_law 419 = .ok (.iconst 3, 1) := by decide +kernel
theorem dL_law_420 : decode cL_law 420 = .ok (.iadd, 1) := by decide +kernel
theorem dL_law_421 : decode cL_law 421 = .ok (.iaload, 1) := by decide +kernel
theorem dL_law_422 : decode cL_law 422 = .ok (.invokevirtual 65, 3) := by decide +kernel
theorem dL_law_425 : decode cL_law 425 = .ok (.aload_n 2, 1) := by decide +kernel
theorem dL_law_426 : decode cL_law 426 = .ok (.aload_n 0, 1) := by decide +kernel
theorem dL_law_427 : decode cL_law 427 = .ok (.iload 4, 2) := by decide +kernel
theorem dL_law_429 : decode cL_law 429 = .ok (.iconst 1, 1) := by decide +kernel
theorem dL_law_430 : decode cL_law 430 = .ok (.iadd, 1) := by decide +kernel
theorem dL_law_431 : decode cL_law 431 = .ok (.iaload, 1) := by decide +kernel
theorem dL_law_432 : decode cL_law 432 = .ok (.aload_n 0, 1) := by decide +kernel
theorem dL_law_433 : decode cL_law 433 = .ok (.iload 4, 2) := by decide +kernel
theorem dL_law_435 : decode cL_law 435 = .ok (.iconst 2, 1) := by decide +kernel
theorem dL_law_436 : decode cL_law 436 = .ok (.iadd, 1) := by decide +kernel
theorem dL_law_437 : decode cL_law 437 = .ok (.iaload, 1) := by decide +kernel
theorem dL_law_438 : decode cL_law 438 = .ok (.aload_n 0, 1) := by decide +kernel
theorem dL_law_439 : decode cL_law 439 = .ok (.iload 4, 2) := by decide +kernel
theorem dL_law_441 : decode cL_law 441 = .ok (.iconst 3, 1) := by decide +kernel
theorem dL_law_442 : decode cL_law 442 = .ok (.iadd, 1) := by decide +kernel
theorem dL_law_443 : decode cL_law 443 = .ok (.iaload, 1) := by decide +kernel
theorem dL_law_444 : decode cL_law 444 = .ok (.invokevirtual 68, 3) := by decide +kernel
theorem dL_law_447 : decode cL_law 447 = .ok (.lcmp, 1) := by decide +kernel
theorem dL_law_448 : decode cL_law 448 = .ok (.ifCond .eq 309, 3) := by decide +kernel
theorem dL_law_451 : decode cL_law 451 = .ok (.iconst 0, 1) := by decide +kernel
theorem dL_law_452 : decode cL_law 452 = .ok (.ireturn, 1) := by decide +kernel
theorem dL_law_453 : decode cL_law 453 = .ok (.aload_n 1, 1) := by decide +kernel
theorem dL_law_454 : decode cL_law 454 = .ok (.aload_n 0, 1) := by decide +kernel
theorem dL_law_455 : decode cL_law 455 = .ok (.iload 4, 2) := by decide +kernel
theorem dL_law_457 : decode cL_law 457 = .ok (.iconst 1, 1) := by decide +kernel
theorem dL_law_458 : decode cL_law 458 = .ok (.iadd, 1) := by decide +kernel
theorem dL_law_459 : decode cL_law 459 = .ok (.iaload, 1) := by decide +kernel
theorem dL_law_460 : decode cL_law 460 = .ok (.aload_n 0, 1) := by decide +kernel
theorem dL_law_461 : decode cL_law 461 = .ok (.iload 4, 2) := by decide +kernel
theorem dL_law_463 : decode cL_law 463 = .ok (.iconst 2, 1) := by decide +kernel
theorem dL_law_464 : decode cL_law 464 = .ok (.iadd, 1) := by decide +kernel
theorem dL_law_465 : decode cL_law 465 = .ok (.iaload, 1) := by decide +kernel
theorem dL_law_466 : decode cL_law 466 = .ok (.invokevirtual 69, 3) := by decide +kernel
theorem dL_law_469 : decode cL_law 469 = .ok (.aload_n 2, 1) := by decide +kernel
theorem dL_law_470 : decode cL_law 470 = .ok (.aload_n 0, 1) := by decide +kernel
theorem dL_law_471 : decode cL_law 471 = .ok (.iload 4, 2) := by decide +kernel
theorem dL_law_473 : decode cL_law 473 = .ok (.iconst 1, 1) := by decide +kernel
theorem dL_law_474 : decode cL_law 474 = .ok (.iadd, 1) := by decide +kernel
theorem dL_law_475 : decode cL_law 475 = .ok (.iaload, 1) := by decide +kernel
theorem dL_law_476 : decode cL_law 476 = .ok (.aload_n 0, 1) := by decide +kernel
theorem dL_law_477 : decode cL_law 477 = .ok (.iload 4, 2) := by decide +kernel
theorem dL_law_479 : decode cL_law 479 = .ok (.iconst 2, 1) := by decide +kernel
theorem dL_law_480 : decode cL_law 480 = .ok (.iadd, 1) := by decide +kernel
theorem dL_law_481 : decode cL_law 481 = .ok (.iaload, 1) := by decide +kernel
theorem dL_law_482 : decode cL_law 482 = .ok (.invokevirtual 72, 3) := by decide +kernel
theorem dL_law_485 : decode cL_law 485 = .ok (.if_icmp .eq 272, 3) := by decide +kernel
theorem dL_law_488 : decode cL_law 488 = .ok (.iconst 0, 1) := by decide +kernel
theorem dL_law_489 : decode cL_law 489 = .ok (.ireturn, 1) := by decide +kernel
theorem dL_law_490 : decode cL_law 490 = .ok (.aload_n 1, 1) := by decide +kernel
theorem dL_law_491 : decode cL_law 491 = .ok (.aload_n 0, 1) := by decide +kernel
theorem dL_law_492 : decode cL_law 492 = .ok (.iload 4, 2) := by decide +kernel
theorem dL_law_494 : decode cL_law 494 = .ok (.iconst 1, 1) := by decide +kernel
theorem dL_law_495 : decode cL_law 495 = .ok (.iadd, 1) := by decide +kernel
theorem dL_law_496 : decode cL_law 496 = .ok (.iaload, 1) := by decide +kernel
theorem dL_law_497 : decode cL_law 497 = .ok (.aload_n 0, 1) := by decide +kernel
theorem dL_law_498 : decode cL_law 498 = .ok (.iload 4, 2) := by decide +kernel
theorem dL_law_500 : decode cL_law 500 = .ok (.iconst 2, 1) := by decide +kernel
theorem dL_law_501 : decode cL_law 501 = .ok (.iadd, 1) := by decide +kernel
theorem dL_law_502 : decode cL_law 502 = .ok (.iaload, 1) := by decide +kernel
theorem dL_law_503 : decode cL_law 503 = .ok (.invokevirtual 73, 3) := by decide +kernel
theorem dL_law_506 : decode cL_law 506 = .ok (.aload_n 2, 1) := by decide +kernel
theorem dL_law_507 : decode cL_law 507 = .ok (.aload_n 0, 1) := by decide +kernel
theorem dL_law_508 : decode cL_law 508 = .ok (.iload 4, 2) := by decide +kernel
theorem dL_law_510 : decode cL_law 510 = .ok (.iconst 1, 1) := by decide +kernel
theorem dL_law_511 : decode cL_law 511 = .ok (.iadd, 1) := by decide +kernel
theorem dL_law_512 : decode cL_law 512 = .ok (.iaload, 1) := by decide +kernel
theorem dL_law_513 : decode cL_law 513 = .ok (.aload_n 0, 1) := by decide +kernel
theorem dL_law_514 : decode cL_law 514 = .ok (.iload 4, 2) := by decide +kernel
theorem dL_law_516 : decode cL_law 516 = .ok (.iconst 2, 1) := by decide +kernel
theorem dL_law_517 : decode cL_law 517 = .ok (.iadd, 1) := by decide +kernel
theorem dL_law_518 : decode cL_law 518 = .ok (.iaload, 1) := by decide +kernel
theorem dL_law_519 : decode cL_law 519 = .ok (.invokevirtual 76, 3) := by decide +kernel
theorem dL_law_522 : decode cL_law 522 = .ok (.if_icmp .eq 235, 3) := by decide +kernel
theorem dL_law_525 : decode cL_law 525 = .ok (.iconst 0, 1) := by decide +kernel
theorem dL_law_526 : decode cL_law 526 = .ok (.ireturn, 1) := by decide +kernel
theorem dL_law_527 : decode cL_law 527 = .ok (.aload_n 1, 1) := by decide +kernel
theorem dL_law_528 : decode cL_law 528 = .ok (.aload_n 0, 1) := by decide +kernel
theorem dL_law_529 : decode cL_law 529 = .ok (.iload 4, 2) := by decide +kernel
theorem dL_law_531 : decode cL_law 531 = .ok (.iconst 1, 1) := by decide +kernel
theorem dL_law_532 : decode cL_law 532 = .ok (.iadd, 1) := by decide +kernel
theorem dL_law_533 : decode cL_law 533 = .ok (.iaload, 1) := by decide +kernel
theorem dL_law_534 : decode cL_law 534 = .ok (.invokevirtual 77, 3) := by decide +kernel
theorem dL_law_537 : decode cL_law 537 = .ok (.aload_n 2, 1) := by decide +kernel
theorem dL_law_538 : decode cL_law 538 = .ok (.aload_n 0, 1) := by decide +kernel
theorem dL_law_539 : decode cL_law 539 = .ok (.iload 4, 2) := by decide +kernel
theorem dL_law_541 : decode cL_law 541 = .ok (.iconst 1, 1) := by decide +kernel
theorem dL_law_542 : decode cL_law 542 = .ok (.iadd, 1) := by decide +kernel
theorem dL_law_543 : decode cL_law 543 = .ok (.iaload, 1) := by decide +kernel
theorem dL_law_544 : decode cL_law 544 = .ok (.invokevirtual 80, 3) := by decide +kernel
theorem dL_law_547 : decode cL_law 547 = .ok (.if_icmp .eq 210, 3) := by decide +kernel
theorem dL_law_550 : decode cL_law 550 = .ok (.iconst 0, 1) := by decide +kernel
theorem dL_law_551 : decode cL_law 551 = .ok (.ireturn, 1) := by decide +kernel
theorem dL_law_552 : decode cL_law 552 = .ok (.aload_n 1, 1) := by decide +kernel
theorem dL_law_553 : decode cL_law 553 = .ok (.aload_n 0, 1) := by decide +kernel
theorem dL_law_554 : decode cL_law 554 = .ok (.iload 4, 2) := by decide +kernel
theorem dL_law_556 : decode cL_law 556 = .ok (.iconst 1, 1) := by decide +kernel
theorem dL_law_557 : decode cL_law 557 = .ok (.iadd, 1) := by decide +kernel
theorem dL_law_558 : decode cL_law 558 = .ok (.iaload, 1) := by decide +kernel
theorem dL_law_559 : decode cL_law 559 = .ok (.invokevirtual 81, 3) := by decide +kernel
theorem dL_law_562 : decode cL_law 562 = .ok (.aload_n 2, 1) := by decide +kernel
theorem dL_law_563 : decode cL_law 563 = .ok (.aload_n 0, 1) := by decide +kernel
theorem dL_law_564 : decode cL_law 564 = .ok (.iload 4, 2) := by decide +kernel
theorem dL_law_566 : decode cL_law 566 = .ok (.iconst 1, 1) := by decide +kernel
theorem dL_law_567 : decode cL_law 567 = .ok (.iadd, 1) := by decide +kernel
theorem dL_law_568 : decode cL_law 568 = .ok (.iaload, 1) := by decide +kernel
theorem dL_law_569 : decode cL_law 569 = .ok (.invokevirtual 84, 3) := by decide +kernel
theorem dL_law_572 : decode cL_law 572 = .ok (.if_icmp .eq 185, 3) := by decide +kernel
theorem dL_law_575 : decode cL_law 575 = .ok (.iconst 0, 1) := by decide +kernel
theorem dL_law_576 : decode cL_law 576 = .ok (.ireturn, 1) := by decide +kernel
theorem dL_law_577 : decode cL_law 577 = .ok (.aload_n 1, 1) := by decide +kernel
theorem dL_law_578 : decode cL_law 578 = .ok (.aload_n 0, 1) := by decide +kernel
theorem dL_law_579 : decode cL_law 579 = .ok (.iload 4, 2) := by decide +kernel
theorem dL_law_581 : decode cL_law 581 = .ok (.iconst 1, 1) := by decide +kernel
theorem dL_law_582 : decode cL_law 582 = .ok (.iadd, 1) := by decide +kernel
theorem dL_law_583 : decode cL_law 583 = .ok (.iaload, 1) := by decide +kernel
theorem dL_law_584 : decode cL_law 584 = .ok (.aload_n 0, 1) := by decide +kernel
theorem dL_law_585 : decode cL_law 585 = .ok (.iload 4, 2) := by decide +kernel
theorem dL_law_587 : decode cL_law 587 = .ok (.iconst 2, 1) := by decide +kernel
theorem dL_law_588 : decode cL_law 588 = .ok (.iadd, 1) := by decide +kernel
theorem dL_law_589 : decode cL_law 589 = .ok (.iaload, 1) := by decide +kernel
theorem dL_law_590 : decode cL_law 590 = .ok (.aload_n 0, 1) := by decide +kernel
theorem dL_law_591 : decode cL_law 591 = .ok (.iload 4, 2) := by decide +kernel
theorem dL_law_593 : decode cL_law 593 = .ok (.iconst 3, 1) := by decide +kernel
theorem dL_law_594 : decode cL_law 594 = .ok (.iadd, 1) := by decide +kernel
theorem dL_law_595 : decode cL_law 595 = .ok (.iaload, 1) := by decide +kernel
theorem dL_law_596 : decode cL_law 596 = .ok (.invokevirtual 85, 3) := by decide +kernel
theorem dL_law_599 : decode cL_law 599 = .ok (.aload_n 2, 1) := by decide +kernel
theorem dL_law_600 : decode cL_law 600 = .ok (.aload_n 0, 1) := by decide +kernel
theorem dL_law_601 : decode cL_law 601 = .ok (.iload 4, 2) := by decide +kernel
theorem dL_law_603 : decode cL_law 603 = .ok (.iconst 1, 1) := by decide +kernel
theorem dL_law_604 : decode cL_law 604 = .ok (.iadd, 1) := by decide +kernel
theorem dL_law_605 : decode cL_law 605 = .ok (.iaload, 1) := by decide +kernel
theorem dL_law_606 : decode cL_law 606 = .ok (.aload_n 0, 1) := by decide +kernel
theorem dL_law_607 : decode cL_law 607 = .ok (.iload 4, 2) := by decide +kernel
theorem dL_law_609 : decode cL_law 609 = .ok (.iconst 2, 1) := by decide +kernel
theorem dL_law_610 : decode cL_law 610 = .ok (.iadd, 1) := by decide +kernel
theorem dL_law_611 : decode cL_law 611 = .ok (.iaload, 1) := by decide +kernel
theorem dL_law_612 : decode cL_law 612 = .ok (.aload_n 0, 1) := by decide +kernel
theorem dL_law_613 : decode cL_law 613 = .ok (.iload 4, 2) := by decide +kernel
theorem dL_law_615 : decode cL_law 615 = .ok (.iconst 3, 1) := by decide +kernel
theorem dL_law_616 : decode cL_law 616 = .ok (.iadd, 1) := by decide +kernel
theorem dL_law_617 : decode cL_law 617 = .ok (.iaload, 1) := by decide +kernel
theorem dL_law_618 : decode cL_law 618 = .ok (.invokevirtual 89, 3) := by decide +kernel
theorem dL_law_621 : decode cL_law 621 = .ok (.if_icmp .eq 136, 3) := by decide +kernel
theorem dL_law_624 : decode cL_law 624 = .ok (.iconst 0, 1) := by decide +kernel
theorem dL_law_625 : decode cL_law 625 = .ok (.ireturn, 1) := by decide +kernel
theorem dL_law_626 : decode cL_law 626 = .ok (.aload_n 1, 1) := by decide +kernel
theorem dL_law_627 : decode cL_law 627 = .ok (.aload_n 0, 1) := by decide +kernel
theorem dL_law_628 : decode cL_law 628 = .ok (.iload 4, 2) := by decide +kernel
theorem dL_law_630 : decode cL_law 630 = .ok (.iconst 1, 1) := by decide +kernel
theorem dL_law_631 : decode cL_law 631 = .ok (.iadd, 1) := by decide +kernel
theorem dL_law_632 : decode cL_law 632 = .ok (.iaload, 1) := by decide +kernel
theorem dL_law_633 : decode cL_law 633 = .ok (.invokevirtual 90, 3) := by decide +kernel
theorem dL_law_636 : decode cL_law 636 = .ok (.aload_n 2, 1) := by decide +kernel
theorem dL_law_637 : decode cL_law 637 = .ok (.aload_n 0, 1) := by decide +kernel
theorem dL_law_638 : decode cL_law 638 = .ok (.iload 4, 2) := by decide +kernel
theorem dL_law_640 : decode cL_law 640 = .ok (.iconst 1, 1) := by decide +kernel
theorem dL_law_641 : decode cL_law 641 = .ok (.iadd, 1) := by decide +kernel
theorem dL_law_642 : decode cL_law 642 = .ok (.iaload, 1) := by decide +kernel
theorem dL_law_643 : decode cL_law 643 = .ok (.invokevirtual 93, 3) := by decide +kernel
theorem dL_law_646 : decode cL_law 646 = .ok (.if_icmp .eq 111, 3) := by decide +kernel
theorem dL_law_649 : decode cL_law 649 = .ok (.iconst 0, 1) := by decide +kernel
theorem dL_law_650 : decode cL_law 650 = .ok (.ireturn, 1) := by decide +kernel
theorem dL_law_651 : decode cL_law 651 = .ok (.aload_n 1, 1) := by decide +kernel
theorem dL_law_652 : decode cL_law 652 = .ok (.aload_n 0, 1) := by decide +kernel
theorem dL_law_653 : decode cL_law 653 = .ok (.iload 4, 2) := by decide +kernel
theorem dL_law_655 : decode cL_law 655 = .ok (.iconst 1, 1) := by decide +kernel
theorem dL_law_656 : decode cL_law 656 = .ok (.iadd, 1) := by decide +kernel
theorem dL_law_657 : decode cL_law 657 = .ok (.iaload, 1) := by decide +kernel
theorem dL_law_658 : decode cL_law 658 = .ok (.aload_n 0, 1) := by decide +kernel
theorem dL_law_659 : decode cL_law 659 = .ok (.iload 4, 2) := by decide +kernel
theorem dL_law_661 : decode cL_law 661 = .ok (.iconst 2, 1) := by decide +kernel
theorem dL_law_662 : decode cL_law 662 = .ok (.iadd, 1) := by decide +kernel
theorem dL_law_663 : decode cL_law 663 = .ok (.iaload, 1) := by decide +kernel
theorem dL_law_664 : decode cL_law 664 = .ok (.invokevirtual 94, 3) := by decide +kernel
theorem dL_law_667 : decode cL_law 667 = .ok (.aload_n 2, 1) := by decide +kernel
theorem dL_law_668 : decode cL_law 668 = .ok (.aload_n 0, 1) := by decide +kernel
theorem dL_law_669 : decode cL_law 669 = .ok (.iload 4, 2) := by decide +kernel
theorem dL_law_671 : decode cL_law 671 = .ok (.iconst 1, 1) := by decide +kernel
theorem dL_law_672 : decode cL_law 672 = .ok (.iadd, 1) := by decide +kernel
theorem dL_law_673 : decode cL_law 673 = .ok (.iaload, 1) := by decide +kernel
theorem dL_law_674 : decode cL_law 674 = .ok (.aload_n 0, 1) := by decide +kernel
theorem dL_law_675 : decode cL_law 675 = .ok (.iload 4, 2) := by decide +kernel
theorem dL_law_677 : decode cL_law 677 = .ok (.iconst 2, 1) := by decide +kernel
theorem dL_law_678 : decode cL_law 678 = .ok (.iadd, 1) := by decide +kernel
theorem dL_law_679 : decode cL_law 679 = .ok (.iaload, 1) := by decide +kernel
theorem dL_law_680 : decode cL_law 680 = .ok (.invokevirtual 97, 3) := by decide +kernel
theorem dL_law_683 : decode cL_law 683 = .ok (.if_icmp .eq 74, 3) := by decide +kernel
theorem dL_law_686 : decode cL_law 686 = .ok (.iconst 0, 1) := by decide +kernel
theorem dL_law_687 : decode cL_law 687 = .ok (.ireturn, 1) := by decide +kernel
theorem dL_law_688 : decode cL_law 688 = .ok (.aload_n 1, 1) := by decide +kernel
theorem dL_law_689 : decode cL_law 689 = .ok (.aload_n 0, 1) := by decide +kernel
theorem dL_law_690 : decode cL_law 690 = .ok (.iload 4, 2) := by decide +kernel
theorem dL_law_692 : decode cL_law 692 = .ok (.iconst 1, 1) := by decide +kernel
theorem dL_law_693 : decode cL_law 693 = .ok (.iadd, 1) := by decide +kernel
theorem dL_law_694 : decode cL_law 694 = .ok (.iaload, 1) := by decide +kernel
theorem dL_law_695 : decode cL_law 695 = .ok (.aload_n 3, 1) := by decide +kernel
theorem dL_law_696 : decode cL_law 696 = .ok (.invokestatic 98, 3) := by decide +kernel
theorem dL_law_699 : decode cL_law 699 = .ok (.istore 5, 2) := by decide +kernel
theorem dL_law_701 : decode cL_law 701 = .ok (.aload_n 2, 1) := by decide +kernel
theorem dL_law_702 : decode cL_law 702 = .ok (.aload_n 0, 1) := by decide +kernel
theorem dL_law_703 : decode cL_law 703 = .ok (.iload 4, 2) := by decide +kernel
theorem dL_law_705 : decode cL_law 705 = .ok (.iconst 1, 1) := by decide +kernel
theorem dL_law_706 : decode cL_law 706 = .ok (.iadd, 1) := by decide +kernel
theorem dL_law_707 : decode cL_law 707 = .ok (.iaload, 1) := by decide +kernel
theorem dL_law_708 : decode cL_law 708 = .ok (.invokevirtual 100, 3) := by decide +kernel
theorem dL_law_711 : decode cL_law 711 = .ok (.istore 6, 2) := by decide +kernel
theorem dL_law_713 : decode cL_law 713 = .ok (.aload_n 2, 1) := by decide +kernel
theorem dL_law_714 : decode cL_law 714 = .ok (.invokevirtual 62, 3) := by decide +kernel
theorem dL_law_717 : decode cL_law 717 = .ok (.iload 5, 2) := by decide +kernel
theorem dL_law_719 : decode cL_law 719 = .ok (.if_icmp .eq 5, 3) := by decide +kernel
theorem dL_law_722 : decode cL_law 722 = .ok (.iconst 0, 1) := by decide +kernel
theorem dL_law_723 : decode cL_law 723 = .ok (.ireturn, 1) := by decide +kernel
theorem dL_law_724 : decode cL_law 724 = .ok (.iload 5, 2) := by decide +kernel
theorem dL_law_726 : decode cL_law 726 = .ok (.ifCond .ne 15, 3) := by decide +kernel
theorem dL_law_729 : decode cL_law 729 = .ok (.aload_n 3, 1) := by decide +kernel
theorem dL_law_730 : decode cL_law 730 = .ok (.iconst 0, 1) := by decide +kernel
theorem dL_law_731 : decode cL_law 731 = .ok (.laload, 1) := by decide +kernel
theorem dL_law_732 : decode cL_law 732 = .ok (.iload 6, 2) := by decide +kernel
theorem dL_law_734 : decode cL_law 734 = .ok (.i2l, 1) := by decide +kernel
theorem dL_law_735 : decode cL_law 735 = .ok (.lcmp, 1) := by decide +kernel
theorem dL_law_736 : decode cL_law 736 = .ok (.ifCond .eq 5, 3) := by decide +kernel
theorem dL_law_739 : decode cL_law 739 = .ok (.iconst 0, 1) := by decide +kernel
theorem dL_law_740 : decode cL_law 740 = .ok (.ireturn, 1) := by decide +kernel
theorem dL_law_741 : decode cL_law 741 = .ok (.goto 16, 3) := by decide +kernel
theorem dL_law_744 : decode cL_law 744 = .ok (.aload_n 1, 1) := by decide +kernel
theorem dL_law_745 : decode cL_law 745 = .ok (.invokevirtual 101, 3) := by decide +kernel
theorem dL_law_748 : decode cL_law 748 = .ok (.aload_n 2, 1) := by decide +kernel
theorem dL_law_749 : decode cL_law 749 = .ok (.invokevirtual 104, 3) := by decide +kernel
theorem dL_law_752 : decode cL_law 752 = .ok (.if_icmp .eq 5, 3) := by decide +kernel
theorem dL_law_755 : decode cL_law 755 = .ok (.iconst 0, 1) := by decide +kernel
theorem dL_law_756 : decode cL_law 756 = .ok (.ireturn, 1) := by decide +kernel
theorem dL_law_757 : decode cL_law 757 = .ok (.iinc 4 4, 3) := by decide +kernel
theorem dL_law_760 : decode cL_law 760 = .ok (.goto (-737), 3) := by decide +kernel
theorem dL_law_763 : decode cL_law 763 = .ok (.iconst 1, 1) := by decide +kernel
theorem dL_law_764 : decode cL_law 764 = .ok (.ireturn, 1) := by decide +kernel
end
section
/-! The base layer: a world that is a function of a small state, contracts by a functional translation. -/
/-- a state: the int fields by number, the int arrays by number -/
abbrev SS : Type := (Nat → Int32) × (Nat → Nat → Int32)
/-- all good words of the tables: every method of ours has them -/
def TT : List Cond := lw_tbl.filter goodWord
theorem inTT {w : Cond} (i : Nat) (h : lw_tbl[i]? = some w) (g : goodWord w = true) : w ∈ TT := List.mem_filter.mpr ⟨List.mem_of_getElem? h, g⟩
theorem TT_good {w : Cond} (h : w ∈ TT) : (w.onTables && w.keeps) = true ∨ ∃ ty, w = .arrayClass ty := good_of_word (List.mem_filter.mp h).2
theorem TT_in : ∀ w ∈ TT, w ∈ lw_tbl := fun _ h => (List.mem_filter.mp h).1
theorem TT_call {w : Cond} (h : w ∈ TT) : GoodIn TT (w :: TT) := fun z hz => (List.mem_cons.mp hz).elim (fun q => q ▸ ⟨h, TT_good h⟩) (fun q => ⟨q, TT_good q⟩)
def ycut : MethodName := ⟨"EntropyBounds$Pieces", "cut", "(LEntropyBounds$Text;)V"⟩
def cA (as : List Nat) (sz : Nat) : Nat → Prop := fun q => q ∈ as ∨ sz ≤ q
def KK (D : va_G) (cy : ClassId) (U : State) : Prop := va_K D vwCl [(cy, .int)] U ∧ va_Nw (.declares ycut) U
theorem KK.moved {D : va_G} {cy : ClassId} {s U : State} (hW : s.WarmedH U.vm) (h : KK D cy s) : KK D cy U := ⟨va_K.moved hW.alike h.1, va_Nw.warmD hW h.2⟩
theorem KK.calling {D : va_G} {cy : ClassId} {U : State} {g : JFrame} {mk : MethodId} {a : Array Value} (h : KK D cy U) : KK D cy (U.calling g mk a) := ⟨va_K.moved (u := U) (U := U.calling g mk a) (Vm.Alike.refl U.vm) h.1, va_Nw.same (u := U) (U := U.calling g mk a) rfl rfl h.2⟩
/-- the world's cells stand in H, are apart, and nothing else has changed since H0 -/
def GW (D : va_G) (w : SS → va_W) (as : List Nat) (cy : ClassId) (s : State) (H0 H : Heap) (locs : List Loc) (σ : SS) : Prop :=
  (∀ σ, (w σ).map Prod.fst = as) ∧ KK D cy s ∧ va_P D vwCl (w σ) H ∧ va_D (cA as H0.size) (w σ) ∧ va_S (cA as H0.size) H0 H locs
def Qw (D : va_G) (w : SS → va_W) (v : Option Value) (σ' : SS) (A : Nat → Prop) : Array Value → State → Outcome → State → Prop := fun _ st oc t =>
  (oc = .returned v ∧ va_P D vwCl (w σ') t.heap) ∧ va_F A st t
def Pw (D : va_G) (w : SS → va_W) (cy : ClassId) (sz : Nat) (σ : SS) : State → Prop := fun U => U.heap.size = sz ∧ va_P D vwCl (w σ) U.heap ∧ KK D cy U ∧ va_D (fun _ => True) (w σ)
/-- method y, called with av in a world of state σ, returns v and leaves state σ' -/
def Ctr (l : Launch) (D : va_G) (w : SS → va_W) (as : List Nat) (cy : ClassId) (y : MethodName) (cc : ByteArray) (maxL : Nat) (rt : Option FieldType) (fr lo : Nat) (av : List Value) (σ : SS) (v : Option Value) (σ' : SS) : Prop :=
  ∀ sz : Nat, Met l y (.code y cc maxL rt :: TT) { frames := fr, cells := 0, slots := 0, locals := lo } (va_Pc av (Pw D w cy sz σ)) (Qw D w v σ' (cA as sz)) 0 0 (cA as sz)
theorem D_as {w : SS → va_W} {as : List Nat} (hw : ∀ σ, (w σ).map Prod.fst = as) {A : Nat → Prop} {σ σ' : SS} (h : va_D A (w σ)) : va_D A (w σ') := by
  have key : ∀ (i : Nat) (p : Nat × va_E), (w σ')[i]? = some p → ∃ p', (w σ)[i]? = some p' ∧ p'.1 = p.1 := by
    intro i p hp
    have h1 : ((w σ').map Prod.fst)[i]? = some p.1 := by rw [List.getElem?_map, hp]; rfl
    rw [hw σ', ← hw σ, List.getElem?_map] at h1
    cases hq : (w σ)[i]? with
    | none => rw [hq] at h1; cases h1
    | some q => rw [hq] at h1; exact ⟨q, rfl, Option.some.inj h1⟩
  refine ⟨fun i j p q hp hq e => ?_, fun k q hq => ?_⟩
  · obtain ⟨p', hp', e1⟩ := key i p hp
    obtain ⟨q', hq', e2⟩ := key j q hq
    exact h.1 i j p' q' hp' hq' (by rw [e1, e2]; exact e)
  · obtain ⟨q', hq', e2⟩ := key k q hq
    rw [← e2]; exact h.2 k q' hq'
theorem A_as {w : SS → va_W} {as : List Nat} (hw : ∀ σ, (w σ).map Prod.fst = as) {A : Nat → Prop} {σ : SS} {sz : Nat} (h : va_D A (w σ)) : va_D (cA as sz) (w σ) :=
  ⟨h.1, fun k q hq => Or.inl (by rw [← hw σ]; exact List.mem_map_of_mem (List.mem_of_getElem? hq))⟩
theorem Ctr.of {l : Launch} {D : va_G} {w : SS → va_W} {as : List Nat} {cy : ClassId} {y : MethodName} {cc : ByteArray} {maxL : Nat} {rt : Option FieldType} {fr lo : Nat} {av : List Value} {σ : SS} {v : Option Value} {σ' : SS}
    (hw : ∀ σ, (w σ).map Prod.fst = as) (hy : plainName y.cls = true) (hn : (lg_sl av).length ≤ maxL)
    (body : ∀ (p : Program) (e : Env) (s : State) (m : MethodId) (args : Array Value) (below : List Frame) (meth : Method) (c : Code) (ls : Array Slot), CallFix p m c cc maxL s args TT y.cls → meth.sig.returnType = rt → meth.locks = false → lv_has ls maxL (lv_args 0 av) → GW D w as cy s s.heap s.heap [] σ →
      W p l e { frames := fr, cells := 0, slots := 0, locals := lo } s m args below meth c s.heap [] 0 0 (MQ below (Qw D w v σ' (cA as s.heap.size)) args s 0 0 (cA as s.heap.size)) (F0 m 0 ls [])) :
    Ctr l D w as cy y cc maxL rt fr lo av σ v σ' := by
  intro sz
  refine Met.ofW (cc := cc) (maxL := maxL) (ret := rt) hy rfl ?_
  intro p e s m args below meth c s₁ B hml hv
  obtain ⟨rfl, hsz, hP, hK, hD0⟩ := hv
  have hts := atoms_spec (ws := .code y cc maxL rt :: TT) B.pre
  have hown : s.vm.findClass y.cls = some m.cls := findClass_of_methodNamed B.named
  subst hsz
  have hl := lv_entry av (n := maxL) hn
  rw [lg_entry_eq]
  exact body p e s m _ below meth c _ ⟨B.exec, B.bytes, hml, hown, fun w h => hts w (List.mem_cons_of_mem _ h)⟩ B.returns B.notSynchronized hl ⟨hw, hK, hP, A_as hw hD0, va_S.rf⟩
section BASE
variable {p : Program} {l : Launch} {e : Env} {R : Room} {s : State} {m : MethodId} {args : Array Value} {below : List Frame} {meth : Method} {c : Code} {H : Heap} {locs : List Loc} {cells slots : Nat} {Q : State → Prop}
variable {cc bytes : ByteArray} {pc nL maxL n idx fr lo : Nat} {ls : Array Slot} {rest st0 st1 As : List Value} {D : va_G} {w : SS → va_W} {as : List Nat} {cy : ClassId} {H0 : Heap} {σ σ' : SS} {v : Option Value} {rt : Option FieldType} {own C : String} {y : MethodName} {a b : Nat}
theorem af {av : Array Value} (hr : va_Run p l e R s m args below meth c H locs cells slots 0 0 (F0 m pc ls st0) rest (Qw D w v σ' (cA as H.size) av) (cA as H.size)) (hG : GW D w as cy s H0 H locs σ) (hst : v.toList ++ rest = st1)
    (kk : ∀ (H1 : Heap) (locs1 : List Loc), GW D w as cy s H0 H1 locs1 σ' → W p l e R s m args below meth c H1 locs1 cells slots Q (F0 m (pc + 3) ls st1)) : W p l e R s m args below meth c H locs cells slots Q (F0 m pc ls st0) := by
  obtain ⟨hw, hK, hP, hD, hS⟩ := hG
  have hA : ∀ q, cA as H.size q → cA as H0.size q := fun q h => h.elim Or.inl (fun h => Or.inr (Nat.le_trans hS.1 h))
  intro T hT X
  obtain ⟨v', st₀, t, T', L, h0, X', hL, e1, e2, ⟨⟨hv, hP1⟩, hz, hk⟩, st⟩ := hr T hT X
  cases hv
  rw [h0] at hz hk
  subst hst
  obtain ⟨t2, a1, b1⟩ := kk T'.heap (locs ++ L) ⟨hw, hK, by rw [e1]; exact hP1, D_as hw hD,
    ⟨Nat.le_trans hS.1 (by rw [e1]; exact hz), fun q h1 h2 => by rw [e1, hk q (Nat.lt_of_lt_of_le h1 hS.1) (fun z => h2 (hA q z))]; exact hS.2.1 q h1 h2, fun q hq => by
      rcases List.mem_append.mp hq with h | h
      · exact hS.2.2 q h
      · exact hA _ (hL q h)⟩⟩ T' rfl X'
  exact ⟨t2, st t2 a1, b1⟩
theorem Pw_blind {av : List Value} {sz : Nat} : FrameBlind (va_Pc av (Pw D w cy sz σ)) := fun a U g mk q => by
  obtain ⟨q0, q1, qP, qK, qD⟩ := q
  exact ⟨q0, q1, qP, qK.calling, qD⟩
theorem Pw_at (hG : GW D w as cy s H0 H locs σ) {av : List Value} (U : State) (hU : U.heap = H) (hW : s.WarmedH U.vm) : va_Pc av (Pw D w cy H.size σ) av.toArray U := by
  obtain ⟨hw, hK, hP, hD, hS⟩ := hG
  exact ⟨rfl, by rw [hU], by rw [hU]; exact hP, hK.moved hW, hD.weaken (fun _ _ _ _ => trivial)⟩
/-- what a callee is, by the tables: a virtual one -/
def MV (y : MethodName) (bytes : ByteArray) (maxL : Nat) (rt : Option FieldType) (C : String) (n : Nat) : Prop := (.instanceMethod y ∈ TT ∧ .selects C y y ∈ TT ∧ .initialized C ∈ TT ∧ .code y bytes maxL rt ∈ TT) ∧ y.cls = C ∧ y.cls ≠ "java/lang/invoke/MethodHandle" ∧ y.cls ≠ "java/lang/invoke/VarHandle" ∧ (parseMethodDescriptor y.desc).map (fun d => d.parameters.length) = some n
/-- a static one -/
def MS (y : MethodName) (bytes : ByteArray) (maxL : Nat) (rt : Option FieldType) (n : Nat) : Prop := (.static y ∈ TT ∧ .initialized y.cls ∈ TT ∧ .code y bytes maxL rt ∈ TT) ∧ y.cls ≠ "java/lang/invoke/MethodHandle" ∧ y.cls ≠ "java/lang/invoke/VarHandle" ∧ (parseMethodDescriptor y.desc).map (fun d => d.parameters.length) = some n
/-- an inherited one, or an abstract one's body: x is named, y is run, in class C; 'owner' declares x -/
def MU (x y : MethodName) (owner : String) (bytes : ByteArray) (maxL : Nat) (rt : Option FieldType) (C : String) (n : Nat) : Prop := (.sameMethod x.cls owner x.name x.desc ∈ TT ∧ .selects C x y ∈ TT ∧ .instanceMethod y ∈ TT ∧ .initialized y.cls ∈ TT ∧ .code y bytes maxL rt ∈ TT) ∧ owner ≠ "java/lang/invoke/MethodHandle" ∧ owner ≠ "java/lang/invoke/VarHandle" ∧ (parseMethodDescriptor x.desc).map (fun d => d.parameters.length) = some n
theorem cl_V (E : CallFix p m c cc nL s args TT own) (hG : GW D w as cy s H0 H locs σ) (hM : Ctr l D w as cy y bytes maxL rt fr lo (.ref b :: As) σ v σ') (h1 : Cond.methodLink own idx y ∈ TT) (hI : MV y bytes maxL rt C n)
    (hR : fr + 1 ≤ R.frames ∧ 8 + (maxL + 11) + lo ≤ R.locals ∧ cells ≤ R.cells ∧ slots ≤ R.slots) (ci q0 : Nat) {T : u_T} {N : Nat} {fs : List Value} (hc : vwCl[ci]? = some (C, T, N)) (he : (w σ)[q0]? = some (b, .inr (ci, fs))) (hn : As.length = n) (hsz : ls.size = nL) (hst0 : st0 = As.reverse ++ .ref b :: rest) (hW : (rest.map fun v => v.category).sum ≤ 8) (hdg : decode cc pc = .ok (.invokevirtual idx, 3)) (hst : v.toList ++ rest = st1)
    (kk : ∀ (H1 : Heap) (locs1 : List Loc), GW D w as cy s H0 H1 locs1 σ' → W p l e R s m args below meth c H1 locs1 cells slots Q (F0 m (pc + 3) ls st1)) : W p l e R s m args below meth c H locs cells slots Q (F0 m pc ls st0) := by
  have hT : GoodIn TT (wsV own idx C y (.code y bytes maxL rt :: TT)) := fun z hz => by
    unfold wsV at hz
    rcases List.mem_append.mp hz with h | h
    · simp only [List.mem_cons, List.not_mem_nil, or_false] at h
      rcases h with rfl | rfl | rfl | rfl
      · exact ⟨h1, TT_good h1⟩
      · exact ⟨hI.1.1, TT_good hI.1.1⟩
      · exact ⟨hI.1.2.1, TT_good hI.1.2.1⟩
      · exact ⟨hI.1.2.2.1, TT_good hI.1.2.2.1⟩
    · exact TT_call hI.1.2.2.2 z h
  exact af (va_runV (As := As) (rest := rest) (b := b) (rm := { frames := fr, cells := 0, slots := 0, locals := lo }) E (hM H.size) (cwV n E.2.2.2.2 hT rfl rfl rfl hI.2 ⟨hR.1, hR.2.1⟩) ⟨Pw_blind, va_recv hG.2.1.1 hG.2.2.1 hc he, fun U hU hW => Pw_at hG U hU hW⟩ rfl hn hsz hst0 (lv_room hW) hdg ⟨hR.2.2.1, hR.2.2.2⟩) hG hst kk
theorem cl_S (E : CallFix p m c cc nL s args TT own) (hG : GW D w as cy s H0 H locs σ) (hM : Ctr l D w as cy y bytes maxL rt fr lo As σ v σ') (h1 : Cond.methodLink own idx y ∈ TT) (hI : MS y bytes maxL rt n)
    (hR : fr + 1 ≤ R.frames ∧ 8 + (maxL + 11) + lo ≤ R.locals ∧ cells ≤ R.cells ∧ slots ≤ R.slots) (hn : As.length = n) (hsz : ls.size = nL) (hst0 : st0 = As.reverse ++ rest) (hW : (rest.map fun v => v.category).sum ≤ 8) (hdg : decode cc pc = .ok (.invokestatic idx, 3)) (hst : v.toList ++ rest = st1)
    (kk : ∀ (H1 : Heap) (locs1 : List Loc), GW D w as cy s H0 H1 locs1 σ' → W p l e R s m args below meth c H1 locs1 cells slots Q (F0 m (pc + 3) ls st1)) : W p l e R s m args below meth c H locs cells slots Q (F0 m pc ls st0) := by
  have hT : GoodIn TT (va_wsS own idx y (.code y bytes maxL rt :: TT)) := fun z hz => by
    unfold va_wsS at hz
    rcases List.mem_append.mp hz with h | h
    · simp only [List.mem_cons, List.not_mem_nil, or_false] at h
      rcases h with rfl | rfl | rfl
      · exact ⟨h1, TT_good h1⟩
      · exact ⟨hI.1.1, TT_good hI.1.1⟩
      · exact ⟨hI.1.2.1, TT_good hI.1.2.1⟩
    · exact TT_call hI.1.2.2 z h
  exact af (va_runS (As := As) (rest := rest) (rm := { frames := fr, cells := 0, slots := 0, locals := lo }) E (hM H.size) (va_cwS n E.2.2.2.2 hT rfl rfl rfl hI.2 ⟨hR.1, hR.2.1⟩) ⟨Pw_blind, fun U hU hW => Pw_at hG U hU hW⟩ rfl hn hsz hst0 (lv_room hW) hdg ⟨hR.2.2.1, hR.2.2.2⟩) hG hst kk
theorem cl_U {x : MethodName} {owner : String} (E : CallFix p m c cc nL s args TT own) (hG : GW D w as cy s H0 H locs σ) (hM : Ctr l D w as cy y bytes maxL rt fr lo (.ref b :: As) σ v σ') (h1 : Cond.methodLink own idx x ∈ TT) (hI : MU x y owner bytes maxL rt C n) (hZ : y = ⟨owner, x.name, x.desc⟩ ∨ ycut = ⟨owner, x.name, x.desc⟩)
    (hR : fr + 1 ≤ R.frames ∧ 8 + (maxL + 11) + lo ≤ R.locals ∧ cells ≤ R.cells ∧ slots ≤ R.slots) (ci q0 : Nat) {T : u_T} {N : Nat} {fs : List Value} (hc : vwCl[ci]? = some (C, T, N)) (he : (w σ)[q0]? = some (b, .inr (ci, fs))) (hn : As.length = n) (hsz : ls.size = nL) (hst0 : st0 = As.reverse ++ .ref b :: rest) (hW : (rest.map fun v => v.category).sum ≤ 8) (hdg : decode cc pc = .ok (.invokevirtual idx, 3)) (hst : v.toList ++ rest = st1)
    (kk : ∀ (H1 : Heap) (locs1 : List Loc), GW D w as cy s H0 H1 locs1 σ' → W p l e R s m args below meth c H1 locs1 cells slots Q (F0 m (pc + 3) ls st1)) : W p l e R s m args below meth c H locs cells slots Q (F0 m pc ls st0) := by
  have hT : GoodIn TT (va_wsU own idx C owner x y (.code y bytes maxL rt :: TT)) := fun z hz => by
    unfold va_wsU at hz
    rcases List.mem_append.mp hz with h | h
    · simp only [List.mem_cons, List.not_mem_nil, or_false] at h
      rcases h with rfl | rfl | rfl | rfl | rfl
      · exact ⟨h1, TT_good h1⟩
      · exact ⟨hI.1.1, TT_good hI.1.1⟩
      · exact ⟨hI.1.2.1, TT_good hI.1.2.1⟩
      · exact ⟨hI.1.2.2.1, TT_good hI.1.2.2.1⟩
      · exact ⟨hI.1.2.2.2.1, TT_good hI.1.2.2.2.1⟩
    · exact TT_call hI.1.2.2.2.2 z h
  have cw : va_CU R s args own C owner idx x y bytes maxL rt (.code y bytes maxL rt :: TT) { frames := fr, cells := 0, slots := 0, locals := lo } 0 0 n := by
    rcases hZ with hZ | hZ
    · exact va_cwU n E.2.2.2.2 hT rfl rfl rfl hZ hI.2 ⟨hR.1, hR.2.1⟩
    · exact va_cwA n E.2.2.2.2 hT rfl rfl rfl (by rw [← hZ]; exact hG.2.1.2) hI.2 ⟨hR.1, hR.2.1⟩
  exact af (va_runU (As := As) (rest := rest) (b := b) (rm := { frames := fr, cells := 0, slots := 0, locals := lo }) E (hM H.size) cw ⟨Pw_blind, va_recv hG.2.1.1 hG.2.2.1 hc he, fun U hU hW => Pw_at hG U hU hW⟩ rfl hn hsz hst0 (lv_room hW) hdg ⟨hR.2.2.1, hR.2.2.2⟩) hG hst kk
/-- a field read -/
theorem g_get {own2 ref : String} {T : u_T} {N ci : Nat} (E : CallFix p m c cc nL s args TT own) (hG : GW D w as cy s H0 H locs σ) (hin : ∀ x ∈ u_ws C T N, x ∈ TT) (hc : vwCl[ci]? = some (C, T, N)) (q0 : Nat) {fs : List Value} (he : (w σ)[q0]? = some (a, .inr (ci, fs))) (k : Nat) (hk : k < N) (hlink : Cond.fieldLink own idx ref (T k).2.1 (T k).2.2.1 ∈ TT)
    (hsame : ref = (T k).1 ∨ Cond.sameField ref (T k).1 (T k).2.1 (T k).2.2.1 ∈ TT) {x : Value} (hv : fs[k]? = some x) (hdg : decode cc pc = .ok (.getfield idx, 3))
    (kk : W p l e R s m args below meth c H locs cells slots Q (F0 m (pc + 3) ls (x :: rest))) : W p l e R s m args below meth c H locs cells slots Q (F0 m pc ls (.ref a :: rest)) :=
  va_get E.1 E.2.1 E.2.2.2.2 hin E.2.2.2.1 hG.2.1.1 hG.2.2.1 q0 he hc k hk (E.2.2.2.2 _ hlink) (fun z hz => hsame.elim (fun q => by rw [q]; exact hz) (fun q => u_same (E.2.2.2.2 _ q) z hz)) hv hdg kk
/-- a field of ints written -/
theorem g_put {ref : String} {T : u_T} {N ci : Nat} {x : Int32} (E : CallFix p m c cc nL s args TT own) (hG : GW D w as cy s H0 H locs σ) (hin : ∀ x ∈ u_ws C T N, x ∈ TT) (ty : Nat → FieldType) (hty : ∀ k, k < N → parseFieldDescriptor (T k).2.2.1 = some (ty k)) (hnm : ∀ a, a < N → ∀ b, b < N → a ≠ b → (T a).2.1 ≠ (T b).2.1) (hc : vwCl[ci]? = some (C, T, N)) (q0 : Nat) {fs : List Value} (he : (w σ)[q0]? = some (a, .inr (ci, fs))) (k : Nat) (hk : k < N) (hlink : Cond.fieldLink own idx ref (T k).2.1 (T k).2.2.1 ∈ TT)
    (hsame : ref = (T k).1 ∨ Cond.sameField ref (T k).1 (T k).2.1 (T k).2.2.1 ∈ TT) (hfin : (T k).2.2.2 = false) (hd : (T k).2.2.1 = "I") (hl : k < fs.length) (hset : (w σ).set q0 (a, .inr (ci, fs.set k (.int x))) = w σ') (hdg : decode cc pc = .ok (.putfield idx, 3))
    (kk : ∀ (H1 : Heap) (locs1 : List Loc), GW D w as cy s H0 H1 locs1 σ' → W p l e R s m args below meth c H1 locs1 cells slots Q (F0 m (pc + 3) ls rest)) : W p l e R s m args below meth c H locs cells slots Q (F0 m pc ls (.int x :: .ref a :: rest)) := by
  refine va_put (v := .int x) (ty := .int) E.1 E.2.1 E.2.2.2.2 hin ty hty hnm E.2.2.2.1 hG.2.1.1 hG.2.2.1 hG.2.2.2.1 hG.2.2.2.2 q0 he hc k hk (E.2.2.2.2 _ hlink) (fun z hz => hsame.elim (fun q => by rw [q]; exact hz) (fun q => u_same (E.2.2.2.2 _ q) z hz)) hfin (by rw [hd]; decide +kernel) rfl rfl hl hdg (fun H1 locs1 hP hD hS => kk H1 locs1 ⟨hG.1, hG.2.1, ?_, ?_, hS⟩)
  · rw [← hset]; exact hP
  · rw [← hset]; exact hD
/-- an int array read, its place in range -/
theorem g_ld (E : CallFix p m c cc nL s args TT own) (hG : GW D w as cy s H0 H locs σ) (q0 : Nat) {N : Nat} {f : Nat → Int32} (ha : (w σ)[q0]? = some (a, .inl (cy, N, .inl f))) {i : Int32} (hin : vp_in i N) (hdg : decode cc pc = .ok (.iaload, 1))
    (kk : W p l e R s m args below meth c H locs cells slots Q (F0 m (pc + 1) ls (.int (f i.toNatClampNeg) :: rest))) : W p l e R s m args below meth c H locs cells slots Q (F0 m pc ls (.int i :: .ref a :: rest)) :=
  va_iald E.1 E.2.1 hG.2.1.1 hG.2.2.1 q0 0 ha rfl hin hdg kk
theorem g_st (E : CallFix p m c cc nL s args TT own) (hG : GW D w as cy s H0 H locs σ) (q0 : Nat) {N : Nat} {f : Nat → Int32} (ha : (w σ)[q0]? = some (a, .inl (cy, N, .inl f))) {i x : Int32} (hin : vp_in i N) (hset : (w σ).set q0 (a, .inl (cy, N, .inl (upd f i.toNatClampNeg x))) = w σ') (hdg : decode cc pc = .ok (.iastore, 1))
    (kk : ∀ (H1 : Heap) (locs1 : List Loc), GW D w as cy s H0 H1 locs1 σ' → W p l e R s m args below meth c H1 locs1 cells slots Q (F0 m (pc + 1) ls rest)) : W p l e R s m args below meth c H locs cells slots Q (F0 m pc ls (.int x :: .int i :: .ref a :: rest)) := by
  refine va_iast E.1 E.2.1 hG.2.1.1 hG.2.2.1 hG.2.2.2.1 hG.2.2.2.2 q0 0 ha rfl hin hdg (fun H1 locs1 hP hD hS => kk H1 locs1 ⟨hG.1, hG.2.1, ?_, ?_, hS⟩)
  · rw [← hset]; exact hP
  · rw [← hset]; exact hD
theorem g_len (E : CallFix p m c cc nL s args TT own) (hG : GW D w as cy s H0 H locs σ) (q0 : Nat) {N : Nat} {f : Nat → Int32} (ha : (w σ)[q0]? = some (a, .inl (cy, N, .inl f))) {x : Int32} (hv : Int32.ofNat N = x) (hdg : decode cc pc = .ok (.arraylength, 1))
    (kk : W p l e R s m args below meth c H locs cells slots Q (F0 m (pc + 1) ls (.int x :: rest))) : W p l e R s m args below meth c H locs cells slots Q (F0 m pc ls (.ref a :: rest)) :=
  va_alen E.1 E.2.1 hG.2.1.1 hG.2.2.1 q0 0 ha rfl hv hdg kk
theorem r_i {x r : Int32} (E : CallFix p m c cc nL s args TT own) (hr : meth.sig.returnType = some .int) (hlk : meth.locks = false) (hG : GW D w as cy s s.heap H locs σ) (hf : some (x, σ) = some (r, σ')) (hdg : decode cc pc = .ok (.ireturn, 1)) :
    W p l e R s m args below meth c H locs cells slots (MQ below (Qw D w (some (.int r)) σ' (cA as s.heap.size)) args s cells slots (cA as s.heap.size)) (F0 m pc ls [.int x]) := by
  cases hf
  exact W.iret E.1 E.2.1 hr (fun t ht _ => ⟨⟨rfl, by rw [ht]; exact hG.2.2.1⟩, hG.2.2.2.2.F ht⟩) hG.2.2.2.2.2.2 hdg hlk
theorem r_z {x r : Int32} (E : CallFix p m c cc nL s args TT own) (hr : meth.sig.returnType = some .boolean) (hlk : meth.locks = false) (hG : GW D w as cy s s.heap H locs σ) (hf : some (x, σ) = some (r, σ')) (hx : narrow .boolean (.int x) = .int x) (hdg : decode cc pc = .ok (.ireturn, 1)) :
    W p l e R s m args below meth c H locs cells slots (MQ below (Qw D w (some (.int r)) σ' (cA as s.heap.size)) args s cells slots (cA as s.heap.size)) (F0 m pc ls [.int x]) := by
  cases hf
  exact W.zret E.1 E.2.1 hr hx (fun t ht _ => ⟨⟨rfl, by rw [ht]; exact hG.2.2.1⟩, hG.2.2.2.2.F ht⟩) hG.2.2.2.2.2.2 hdg hlk
theorem r_l {x r : Int64} (E : CallFix p m c cc nL s args TT own) (hr : meth.sig.returnType = some .long) (hlk : meth.locks = false) (hG : GW D w as cy s s.heap H locs σ) (hf : some (x, σ) = some (r, σ')) (hdg : decode cc pc = .ok (.lreturn, 1)) :
    W p l e R s m args below meth c H locs cells slots (MQ below (Qw D w (some (.long r)) σ' (cA as s.heap.size)) args s cells slots (cA as s.heap.size)) (F0 m pc ls [.long x]) := by
  cases hf
  exact W.lret E.1 E.2.1 hr (fun t ht _ => ⟨⟨rfl, by rw [ht]; exact hG.2.2.1⟩, hG.2.2.2.2.F ht⟩) hG.2.2.2.2.2.2 hdg hlk
theorem r_v {u : Unit} (E : CallFix p m c cc nL s args TT own) (hr : meth.sig.returnType = none) (hlk : meth.locks = false) (hG : GW D w as cy s s.heap H locs σ) (hf : some ((), σ) = some (u, σ')) (hdg : decode cc pc = .ok (.return_, 1)) :
    W p l e R s m args below meth c H locs cells slots (MQ below (Qw D w none σ' (cA as s.heap.size)) args s cells slots (cA as s.heap.size)) (F0 m pc ls []) := by
  cases hf
  exact W.vret E.1 E.2.1 hr (fun t ht _ => ⟨⟨rfl, by rw [ht]; exact hG.2.2.1⟩, hG.2.2.2.2.F ht⟩) hG.2.2.2.2.2.2 hdg hlk
end BASE
/-- the translation's own words: a place in range, a divisor that isn't 0, a call -/
def gd {β : Type} (i : Int32) (n : Nat) (k : Option β) : Option β := if i < 0 ∨ n ≤ i.toNatClampNeg then none else k
def gz {β : Type} (x : Int32) (k : Option β) : Option β := if x = 0 then none else k
def gZ {β : Type} (x : Int64) (k : Option β) : Option β := if x = 0 then none else k
def gb {β : Type} (x : Int32) (k : Option β) : Option β := if x = 0 ∨ x = 1 then k else none
def bd {α β : Type} (o : Option (α × SS)) (k : α → SS → Option β) : Option β := match o with
  | none => none
  | some q => k q.1 q.2
theorem gd_some {β : Type} {i : Int32} {n : Nat} {k : Option β} {b : β} (h : gd i n k = some b) : vp_in i n ∧ k = some b := by
  unfold gd at h
  by_cases hc : i < 0 ∨ n ≤ i.toNatClampNeg
  · rw [if_pos hc] at h; cases h
  · rw [if_neg hc] at h; exact ⟨hc, h⟩
theorem gz_some {β : Type} {x : Int32} {k : Option β} {b : β} (h : gz x k = some b) : ¬ x = 0 ∧ k = some b := by
  unfold gz at h
  by_cases hc : x = 0
  · rw [if_pos hc] at h; cases h
  · rw [if_neg hc] at h; exact ⟨hc, h⟩
theorem gZ_some {β : Type} {x : Int64} {k : Option β} {b : β} (h : gZ x k = some b) : ¬ x = 0 ∧ k = some b := by
  unfold gZ at h
  by_cases hc : x = 0
  · rw [if_pos hc] at h; cases h
  · rw [if_neg hc] at h; exact ⟨hc, h⟩
theorem gb_some {β : Type} {x : Int32} {k : Option β} {b : β} (h : gb x k = some b) : narrow .boolean (.int x) = .int x ∧ k = some b := by
  unfold gb at h
  by_cases hc : x = 0 ∨ x = 1
  · rw [if_pos hc] at h
    rcases hc with rfl | rfl
    · exact ⟨by decide +kernel, h⟩
    · exact ⟨by decide +kernel, h⟩
  · rw [if_neg hc] at h; cases h
theorem bd_some {α β : Type} {o : Option (α × SS)} {k : α → SS → Option β} {b : β} (h : bd o k = some b) : ∃ (r : α) (σ1 : SS), o = some (r, σ1) ∧ k r σ1 = some b := by
  unfold bd at h
  cases o with
  | none => cases h
  | some q => exact ⟨q.1, q.2, rfl, h⟩
def FUEL : Nat := 1000
end
