-- ===== PART A: goes FIRST, ahead of the names: the tables' words, and 'selects' of the private methods out of them =====
/-- a private method of a class that the tables say can be made, by its rows of tables_1 -/
def lw_okq (q : MethodName × Nat) : Prop := (q.1.cls ≠ "java/lang/invoke/MethodHandle" ∧ q.1.cls ≠ "java/lang/invoke/VarHandle") ∧ Cond.instantiable q.1.cls q.2 ∈ tables_1 ∧ Cond.privateMethod q.1 ∈ tables_1 ∧ Cond.instanceMethod q.1 ∈ tables_1
theorem lw_p0 : lw_okq (⟨"TruthBridge$Text", "addToken", "(I)I"⟩, 7) := ⟨⟨by decide +kernel, by decide +kernel⟩, List.mem_of_getElem? (i := 32) (by decide +kernel), List.mem_of_getElem? (i := 441) (by decide +kernel), List.mem_of_getElem? (i := 442) (by decide +kernel)⟩
theorem lw_p1 : lw_okq (⟨"TruthBridge$Text", "isSmall", "(I)Z"⟩, 7) := ⟨⟨by decide +kernel, by decide +kernel⟩, List.mem_of_getElem? (i := 32) (by decide +kernel), List.mem_of_getElem? (i := 445) (by decide +kernel), List.mem_of_getElem? (i := 446) (by decide +kernel)⟩
theorem lw_p2 : lw_okq (⟨"TruthBridge$Text", "addWord", "(I)I"⟩, 7) := ⟨⟨by decide +kernel, by decide +kernel⟩, List.mem_of_getElem? (i := 32) (by decide +kernel), List.mem_of_getElem? (i := 449) (by decide +kernel), List.mem_of_getElem? (i := 450) (by decide +kernel)⟩
theorem lw_p3 : lw_okq (⟨"TruthBridge$Text", "wordAt", "(II)I"⟩, 7) := ⟨⟨by decide +kernel, by decide +kernel⟩, List.mem_of_getElem? (i := 32) (by decide +kernel), List.mem_of_getElem? (i := 453) (by decide +kernel), List.mem_of_getElem? (i := 454) (by decide +kernel)⟩
theorem lw_p4 : lw_okq (⟨"TruthBridge$Text", "put", "(II)V"⟩, 7) := ⟨⟨by decide +kernel, by decide +kernel⟩, List.mem_of_getElem? (i := 32) (by decide +kernel), List.mem_of_getElem? (i := 506) (by decide +kernel), List.mem_of_getElem? (i := 507) (by decide +kernel)⟩
theorem lw_p5 : lw_okq (⟨"TruthBridge$Text", "isDigit", "(I)Z"⟩, 7) := ⟨⟨by decide +kernel, by decide +kernel⟩, List.mem_of_getElem? (i := 32) (by decide +kernel), List.mem_of_getElem? (i := 510) (by decide +kernel), List.mem_of_getElem? (i := 511) (by decide +kernel)⟩
theorem lw_p6 : lw_okq (⟨"TruthBridge$Text", "addNumber", "(I)I"⟩, 7) := ⟨⟨by decide +kernel, by decide +kernel⟩, List.mem_of_getElem? (i := 32) (by decide +kernel), List.mem_of_getElem? (i := 514) (by decide +kernel), List.mem_of_getElem? (i := 515) (by decide +kernel)⟩
theorem lw_p7 : lw_okq (⟨"TruthBridge$Land", "forgetWays", "()V"⟩, 14) := ⟨⟨by decide +kernel, by decide +kernel⟩, List.mem_of_getElem? (i := 124) (by decide +kernel), List.mem_of_getElem? (i := 519) (by decide +kernel), List.mem_of_getElem? (i := 520) (by decide +kernel)⟩
theorem lw_p8 : lw_okq (⟨"TruthBridge$Land", "readClause", "(LTruthBridge$Text;I)V"⟩, 14) := ⟨⟨by decide +kernel, by decide +kernel⟩, List.mem_of_getElem? (i := 124) (by decide +kernel), List.mem_of_getElem? (i := 526) (by decide +kernel), List.mem_of_getElem? (i := 527) (by decide +kernel)⟩
theorem lw_p9 : lw_okq (⟨"TruthBridge$Land", "isFull", "(I)Z"⟩, 14) := ⟨⟨by decide +kernel, by decide +kernel⟩, List.mem_of_getElem? (i := 124) (by decide +kernel), List.mem_of_getElem? (i := 538) (by decide +kernel), List.mem_of_getElem? (i := 539) (by decide +kernel)⟩
theorem lw_p10 : lw_okq (⟨"TruthBridge$Land", "readFacts", "(LTruthBridge$Text;)V"⟩, 14) := ⟨⟨by decide +kernel, by decide +kernel⟩, List.mem_of_getElem? (i := 124) (by decide +kernel), List.mem_of_getElem? (i := 546) (by decide +kernel), List.mem_of_getElem? (i := 547) (by decide +kernel)⟩
theorem lw_p11 : lw_okq (⟨"TruthBridge$Land", "readPerson", "(LTruthBridge$Text;)V"⟩, 14) := ⟨⟨by decide +kernel, by decide +kernel⟩, List.mem_of_getElem? (i := 124) (by decide +kernel), List.mem_of_getElem? (i := 560) (by decide +kernel), List.mem_of_getElem? (i := 561) (by decide +kernel)⟩
theorem lw_p12 : lw_okq (⟨"TruthBridge$Land", "readPlace", "(LTruthBridge$Text;)V"⟩, 14) := ⟨⟨by decide +kernel, by decide +kernel⟩, List.mem_of_getElem? (i := 124) (by decide +kernel), List.mem_of_getElem? (i := 564) (by decide +kernel), List.mem_of_getElem? (i := 565) (by decide +kernel)⟩
theorem lw_p13 : lw_okq (⟨"TruthBridge$Land", "readPath", "(LTruthBridge$Text;)V"⟩, 14) := ⟨⟨by decide +kernel, by decide +kernel⟩, List.mem_of_getElem? (i := 124) (by decide +kernel), List.mem_of_getElem? (i := 568) (by decide +kernel), List.mem_of_getElem? (i := 569) (by decide +kernel)⟩
theorem lw_p14 : lw_okq (⟨"TruthBridge$Land", "shorten", "(III)V"⟩, 14) := ⟨⟨by decide +kernel, by decide +kernel⟩, List.mem_of_getElem? (i := 124) (by decide +kernel), List.mem_of_getElem? (i := 572) (by decide +kernel), List.mem_of_getElem? (i := 573) (by decide +kernel)⟩
theorem lw_p15 : lw_okq (⟨"TruthBridge$Land", "readTurn", "(LTruthBridge$Text;)V"⟩, 14) := ⟨⟨by decide +kernel, by decide +kernel⟩, List.mem_of_getElem? (i := 124) (by decide +kernel), List.mem_of_getElem? (i := 576) (by decide +kernel), List.mem_of_getElem? (i := 577) (by decide +kernel)⟩
def lw_privs_1 : List (MethodName × Nat) := [(⟨"TruthBridge$Text", "addToken", "(I)I"⟩, 7), (⟨"TruthBridge$Text", "isSmall", "(I)Z"⟩, 7), (⟨"TruthBridge$Text", "addWord", "(I)I"⟩, 7), (⟨"TruthBridge$Text", "wordAt", "(II)I"⟩, 7), (⟨"TruthBridge$Text", "put", "(II)V"⟩, 7), (⟨"TruthBridge$Text", "isDigit", "(I)Z"⟩, 7), (⟨"TruthBridge$Text", "addNumber", "(I)I"⟩, 7), (⟨"TruthBridge$Land", "forgetWays", "()V"⟩, 14), (⟨"TruthBridge$Land", "readClause", "(LTruthBridge$Text;I)V"⟩, 14), (⟨"TruthBridge$Land", "isFull", "(I)Z"⟩, 14), (⟨"TruthBridge$Land", "readFacts", "(LTruthBridge$Text;)V"⟩, 14), (⟨"TruthBridge$Land", "readPerson", "(LTruthBridge$Text;)V"⟩, 14), (⟨"TruthBridge$Land", "readPlace", "(LTruthBridge$Text;)V"⟩, 14), (⟨"TruthBridge$Land", "readPath", "(LTruthBridge$Text;)V"⟩, 14), (⟨"TruthBridge$Land", "shorten", "(III)V"⟩, 14), (⟨"TruthBridge$Land", "readTurn", "(LTruthBridge$Text;)V"⟩, 14)]
theorem lw_r1 : ∀ q ∈ lw_privs_1, lw_okq q := List.forall_mem_cons.mpr ⟨lw_p0, List.forall_mem_cons.mpr ⟨lw_p1, List.forall_mem_cons.mpr ⟨lw_p2, List.forall_mem_cons.mpr ⟨lw_p3, List.forall_mem_cons.mpr ⟨lw_p4, List.forall_mem_cons.mpr ⟨lw_p5, List.forall_mem_cons.mpr ⟨lw_p6, List.forall_mem_cons.mpr ⟨lw_p7, List.forall_mem_cons.mpr ⟨lw_p8, List.forall_mem_cons.mpr ⟨lw_p9, List.forall_mem_cons.mpr ⟨lw_p10, List.forall_mem_cons.mpr ⟨lw_p11, List.forall_mem_cons.mpr ⟨lw_p12, List.forall_mem_cons.mpr ⟨lw_p13, List.forall_mem_cons.mpr ⟨lw_p14, List.forall_mem_cons.mpr ⟨lw_p15, fun _ h => absurd h List.not_mem_nil⟩⟩⟩⟩⟩⟩⟩⟩⟩⟩⟩⟩⟩⟩⟩⟩
theorem lw_p16 : lw_okq (⟨"TruthBridge$Land", "findShortestWays", "()V"⟩, 14) := ⟨⟨by decide +kernel, by decide +kernel⟩, List.mem_of_getElem? (i := 124) (by decide +kernel), List.mem_of_getElem? (i := 588) (by decide +kernel), List.mem_of_getElem? (i := 589) (by decide +kernel)⟩
theorem lw_p17 : lw_okq (⟨"TruthBridge$SayingReader", "readWhole", "(I)LTruthBridge$Worlds;"⟩, 2) := ⟨⟨by decide +kernel, by decide +kernel⟩, List.mem_of_getElem? (i := 272) (by decide +kernel), List.mem_of_getElem? (i := 638) (by decide +kernel), List.mem_of_getElem? (i := 639) (by decide +kernel)⟩
theorem lw_p18 : lw_okq (⟨"TruthBridge$SayingReader", "readFact", "(I)LTruthBridge$Worlds;"⟩, 2) := ⟨⟨by decide +kernel, by decide +kernel⟩, List.mem_of_getElem? (i := 272) (by decide +kernel), List.mem_of_getElem? (i := 644) (by decide +kernel), List.mem_of_getElem? (i := 645) (by decide +kernel)⟩
theorem lw_p19 : lw_okq (⟨"TruthBridge$SayingReader", "readLetter", "(I)LTruthBridge$Worlds;"⟩, 2) := ⟨⟨by decide +kernel, by decide +kernel⟩, List.mem_of_getElem? (i := 272) (by decide +kernel), List.mem_of_getElem? (i := 649) (by decide +kernel), List.mem_of_getElem? (i := 650) (by decide +kernel)⟩
theorem lw_p20 : lw_okq (⟨"TruthBridge$RuleReader", "readClause", "()V"⟩, 7) := ⟨⟨by decide +kernel, by decide +kernel⟩, List.mem_of_getElem? (i := 285) (by decide +kernel), List.mem_of_getElem? (i := 695) (by decide +kernel), List.mem_of_getElem? (i := 696) (by decide +kernel)⟩
theorem lw_p21 : lw_okq (⟨"TruthBridge$RuleReader", "readSum", "()V"⟩, 7) := ⟨⟨by decide +kernel, by decide +kernel⟩, List.mem_of_getElem? (i := 285) (by decide +kernel), List.mem_of_getElem? (i := 702) (by decide +kernel), List.mem_of_getElem? (i := 703) (by decide +kernel)⟩
theorem lw_p22 : lw_okq (⟨"TruthBridge$RuleReader", "takeItem", "(Z)I"⟩, 7) := ⟨⟨by decide +kernel, by decide +kernel⟩, List.mem_of_getElem? (i := 285) (by decide +kernel), List.mem_of_getElem? (i := 709) (by decide +kernel), List.mem_of_getElem? (i := 710) (by decide +kernel)⟩
theorem lw_p23 : lw_okq (⟨"TruthBridge$RuleReader", "emit", "(I)V"⟩, 7) := ⟨⟨by decide +kernel, by decide +kernel⟩, List.mem_of_getElem? (i := 285) (by decide +kernel), List.mem_of_getElem? (i := 714) (by decide +kernel), List.mem_of_getElem? (i := 715) (by decide +kernel)⟩
theorem lw_p24 : lw_okq (⟨"TruthBridge$RuleReader", "readTest", "(I)V"⟩, 7) := ⟨⟨by decide +kernel, by decide +kernel⟩, List.mem_of_getElem? (i := 285) (by decide +kernel), List.mem_of_getElem? (i := 719) (by decide +kernel), List.mem_of_getElem? (i := 720) (by decide +kernel)⟩
theorem lw_p25 : lw_okq (⟨"TruthBridge$RuleReader", "readFact", "(I)V"⟩, 7) := ⟨⟨by decide +kernel, by decide +kernel⟩, List.mem_of_getElem? (i := 285) (by decide +kernel), List.mem_of_getElem? (i := 723) (by decide +kernel), List.mem_of_getElem? (i := 724) (by decide +kernel)⟩
theorem lw_p26 : lw_okq (⟨"TruthBridge", "isPerson", "(I)Z"⟩, 10) := ⟨⟨by decide +kernel, by decide +kernel⟩, List.mem_of_getElem? (i := 24) (by decide +kernel), List.mem_of_getElem? (i := 780) (by decide +kernel), List.mem_of_getElem? (i := 781) (by decide +kernel)⟩
theorem lw_p27 : lw_okq (⟨"TruthBridge", "isPlace", "(I)Z"⟩, 10) := ⟨⟨by decide +kernel, by decide +kernel⟩, List.mem_of_getElem? (i := 24) (by decide +kernel), List.mem_of_getElem? (i := 829) (by decide +kernel), List.mem_of_getElem? (i := 830) (by decide +kernel)⟩
theorem lw_p28 : lw_okq (⟨"TruthBridge", "isSaying", "(I)Z"⟩, 10) := ⟨⟨by decide +kernel, by decide +kernel⟩, List.mem_of_getElem? (i := 24) (by decide +kernel), List.mem_of_getElem? (i := 842) (by decide +kernel), List.mem_of_getElem? (i := 843) (by decide +kernel)⟩
theorem lw_p29 : lw_okq (⟨"TruthBridge", "isWorld", "(I)Z"⟩, 10) := ⟨⟨by decide +kernel, by decide +kernel⟩, List.mem_of_getElem? (i := 24) (by decide +kernel), List.mem_of_getElem? (i := 846) (by decide +kernel), List.mem_of_getElem? (i := 847) (by decide +kernel)⟩
theorem lw_p30 : lw_okq (⟨"TruthBridge", "isHolder", "(I)Z"⟩, 10) := ⟨⟨by decide +kernel, by decide +kernel⟩, List.mem_of_getElem? (i := 24) (by decide +kernel), List.mem_of_getElem? (i := 866) (by decide +kernel), List.mem_of_getElem? (i := 867) (by decide +kernel)⟩
theorem lw_p31 : lw_okq (⟨"TruthBridge", "isUp", "(I)Z"⟩, 10) := ⟨⟨by decide +kernel, by decide +kernel⟩, List.mem_of_getElem? (i := 24) (by decide +kernel), List.mem_of_getElem? (i := 898) (by decide +kernel), List.mem_of_getElem? (i := 899) (by decide +kernel)⟩
def lw_privs_2 : List (MethodName × Nat) := [(⟨"TruthBridge$Land", "findShortestWays", "()V"⟩, 14), (⟨"TruthBridge$SayingReader", "readWhole", "(I)LTruthBridge$Worlds;"⟩, 2), (⟨"TruthBridge$SayingReader", "readFact", "(I)LTruthBridge$Worlds;"⟩, 2), (⟨"TruthBridge$SayingReader", "readLetter", "(I)LTruthBridge$Worlds;"⟩, 2), (⟨"TruthBridge$RuleReader", "readClause", "()V"⟩, 7), (⟨"TruthBridge$RuleReader", "readSum", "()V"⟩, 7), (⟨"TruthBridge$RuleReader", "takeItem", "(Z)I"⟩, 7), (⟨"TruthBridge$RuleReader", "emit", "(I)V"⟩, 7), (⟨"TruthBridge$RuleReader", "readTest", "(I)V"⟩, 7), (⟨"TruthBridge$RuleReader", "readFact", "(I)V"⟩, 7), (⟨"TruthBridge", "isPerson", "(I)Z"⟩, 10), (⟨"TruthBridge", "isPlace", "(I)Z"⟩, 10), (⟨"TruthBridge", "isSaying", "(I)Z"⟩, 10), (⟨"TruthBridge", "isWorld", "(I)Z"⟩, 10), (⟨"TruthBridge", "isHolder", "(I)Z"⟩, 10), (⟨"TruthBridge", "isUp", "(I)Z"⟩, 10)]
theorem lw_r2 : ∀ q ∈ lw_privs_2, lw_okq q := List.forall_mem_cons.mpr ⟨lw_p16, List.forall_mem_cons.mpr ⟨lw_p17, List.forall_mem_cons.mpr ⟨lw_p18, List.forall_mem_cons.mpr ⟨lw_p19, List.forall_mem_cons.mpr ⟨lw_p20, List.forall_mem_cons.mpr ⟨lw_p21, List.forall_mem_cons.mpr ⟨lw_p22, List.forall_mem_cons.mpr ⟨lw_p23, List.forall_mem_cons.mpr ⟨lw_p24, List.forall_mem_cons.mpr ⟨lw_p25, List.forall_mem_cons.mpr ⟨lw_p26, List.forall_mem_cons.mpr ⟨lw_p27, List.forall_mem_cons.mpr ⟨lw_p28, List.forall_mem_cons.mpr ⟨lw_p29, List.forall_mem_cons.mpr ⟨lw_p30, List.forall_mem_cons.mpr ⟨lw_p31, fun _ h => absurd h List.not_mem_nil⟩⟩⟩⟩⟩⟩⟩⟩⟩⟩⟩⟩⟩⟩⟩⟩
theorem lw_p32 : lw_okq (⟨"TruthBridge$Page", "forgetOldest", "()V"⟩, 8) := ⟨⟨by decide +kernel, by decide +kernel⟩, List.mem_of_getElem? (i := 118) (by decide +kernel), List.mem_of_getElem? (i := 906) (by decide +kernel), List.mem_of_getElem? (i := 907) (by decide +kernel)⟩
theorem lw_p33 : lw_okq (⟨"TruthBridge$Page", "keepPast", "(ILTruthBridge$Moment;)V"⟩, 8) := ⟨⟨by decide +kernel, by decide +kernel⟩, List.mem_of_getElem? (i := 118) (by decide +kernel), List.mem_of_getElem? (i := 910) (by decide +kernel), List.mem_of_getElem? (i := 911) (by decide +kernel)⟩
theorem lw_p34 : lw_okq (⟨"TruthBridge$Moment", "forget", "(II)V"⟩, 6) := ⟨⟨by decide +kernel, by decide +kernel⟩, List.mem_of_getElem? (i := 199) (by decide +kernel), List.mem_of_getElem? (i := 949) (by decide +kernel), List.mem_of_getElem? (i := 950) (by decide +kernel)⟩
theorem lw_p35 : lw_okq (⟨"TruthBridge$Days", "chosenBy", "(LTruthBridge$Rule;I)I"⟩, 7) := ⟨⟨by decide +kernel, by decide +kernel⟩, List.mem_of_getElem? (i := 349) (by decide +kernel), List.mem_of_getElem? (i := 977) (by decide +kernel), List.mem_of_getElem? (i := 978) (by decide +kernel)⟩
theorem lw_p36 : lw_okq (⟨"TruthBridge$Days", "describe", "(I)V"⟩, 7) := ⟨⟨by decide +kernel, by decide +kernel⟩, List.mem_of_getElem? (i := 349) (by decide +kernel), List.mem_of_getElem? (i := 981) (by decide +kernel), List.mem_of_getElem? (i := 982) (by decide +kernel)⟩
theorem lw_p37 : lw_okq (⟨"TruthBridge$Days", "othersBeside", "(I)I"⟩, 7) := ⟨⟨by decide +kernel, by decide +kernel⟩, List.mem_of_getElem? (i := 349) (by decide +kernel), List.mem_of_getElem? (i := 988) (by decide +kernel), List.mem_of_getElem? (i := 989) (by decide +kernel)⟩
theorem lw_p38 : lw_okq (⟨"TruthBridge$Days", "describeSaying", "(II)V"⟩, 7) := ⟨⟨by decide +kernel, by decide +kernel⟩, List.mem_of_getElem? (i := 349) (by decide +kernel), List.mem_of_getElem? (i := 992) (by decide +kernel), List.mem_of_getElem? (i := 993) (by decide +kernel)⟩
theorem lw_p39 : lw_okq (⟨"TruthBridge$Rule", "work", "(II[J)J"⟩, 5) := ⟨⟨by decide +kernel, by decide +kernel⟩, List.mem_of_getElem? (i := 736) (by decide +kernel), List.mem_of_getElem? (i := 1002) (by decide +kernel), List.mem_of_getElem? (i := 1003) (by decide +kernel)⟩
theorem lw_p40 : lw_okq (⟨"TruthBridge", "isSet", "(I)Z"⟩, 10) := ⟨⟨by decide +kernel, by decide +kernel⟩, List.mem_of_getElem? (i := 24) (by decide +kernel), List.mem_of_getElem? (i := 1018) (by decide +kernel), List.mem_of_getElem? (i := 1019) (by decide +kernel)⟩
theorem lw_p41 : lw_okq (⟨"TruthBridge$Sayings", "meetAll", "(II)V"⟩, 7) := ⟨⟨by decide +kernel, by decide +kernel⟩, List.mem_of_getElem? (i := 64) (by decide +kernel), List.mem_of_getElem? (i := 1026) (by decide +kernel), List.mem_of_getElem? (i := 1027) (by decide +kernel)⟩
theorem lw_p42 : lw_okq (⟨"TruthBridge$Adviser", "bearing", "(LTruthBridge$Worlds;I)I"⟩, 8) := ⟨⟨by decide +kernel, by decide +kernel⟩, List.mem_of_getElem? (i := 316) (by decide +kernel), List.mem_of_getElem? (i := 1083) (by decide +kernel), List.mem_of_getElem? (i := 1084) (by decide +kernel)⟩
theorem lw_p43 : lw_okq (⟨"TruthBridge$Adviser", "bears", "(LTruthBridge$Worlds;II)Z"⟩, 8) := ⟨⟨by decide +kernel, by decide +kernel⟩, List.mem_of_getElem? (i := 316) (by decide +kernel), List.mem_of_getElem? (i := 1088) (by decide +kernel), List.mem_of_getElem? (i := 1089) (by decide +kernel)⟩
theorem lw_p44 : lw_okq (⟨"TruthBridge$Adviser", "known", "(LTruthBridge$Worlds;I)I"⟩, 8) := ⟨⟨by decide +kernel, by decide +kernel⟩, List.mem_of_getElem? (i := 316) (by decide +kernel), List.mem_of_getElem? (i := 1094) (by decide +kernel), List.mem_of_getElem? (i := 1095) (by decide +kernel)⟩
theorem lw_p45 : lw_okq (⟨"TruthBridge$Adviser", "othersBehind", "(II)I"⟩, 8) := ⟨⟨by decide +kernel, by decide +kernel⟩, List.mem_of_getElem? (i := 316) (by decide +kernel), List.mem_of_getElem? (i := 1099) (by decide +kernel), List.mem_of_getElem? (i := 1100) (by decide +kernel)⟩
theorem lw_p46 : lw_okq (⟨"TruthBridge$Adviser", "gatherCrossers", "(I)Z"⟩, 8) := ⟨⟨by decide +kernel, by decide +kernel⟩, List.mem_of_getElem? (i := 316) (by decide +kernel), List.mem_of_getElem? (i := 1114) (by decide +kernel), List.mem_of_getElem? (i := 1115) (by decide +kernel)⟩
theorem lw_p47 : lw_okq (⟨"TruthBridge$Adviser", "bestFrom", "(III)I"⟩, 8) := ⟨⟨by decide +kernel, by decide +kernel⟩, List.mem_of_getElem? (i := 316) (by decide +kernel), List.mem_of_getElem? (i := 1119) (by decide +kernel), List.mem_of_getElem? (i := 1120) (by decide +kernel)⟩
def lw_privs_3 : List (MethodName × Nat) := [(⟨"TruthBridge$Page", "forgetOldest", "()V"⟩, 8), (⟨"TruthBridge$Page", "keepPast", "(ILTruthBridge$Moment;)V"⟩, 8), (⟨"TruthBridge$Moment", "forget", "(II)V"⟩, 6), (⟨"TruthBridge$Days", "chosenBy", "(LTruthBridge$Rule;I)I"⟩, 7), (⟨"TruthBridge$Days", "describe", "(I)V"⟩, 7), (⟨"TruthBridge$Days", "othersBeside", "(I)I"⟩, 7), (⟨"TruthBridge$Days", "describeSaying", "(II)V"⟩, 7), (⟨"TruthBridge$Rule", "work", "(II[J)J"⟩, 5), (⟨"TruthBridge", "isSet", "(I)Z"⟩, 10), (⟨"TruthBridge$Sayings", "meetAll", "(II)V"⟩, 7), (⟨"TruthBridge$Adviser", "bearing", "(LTruthBridge$Worlds;I)I"⟩, 8), (⟨"TruthBridge$Adviser", "bears", "(LTruthBridge$Worlds;II)Z"⟩, 8), (⟨"TruthBridge$Adviser", "known", "(LTruthBridge$Worlds;I)I"⟩, 8), (⟨"TruthBridge$Adviser", "othersBehind", "(II)I"⟩, 8), (⟨"TruthBridge$Adviser", "gatherCrossers", "(I)Z"⟩, 8), (⟨"TruthBridge$Adviser", "bestFrom", "(III)I"⟩, 8)]
theorem lw_r3 : ∀ q ∈ lw_privs_3, lw_okq q := List.forall_mem_cons.mpr ⟨lw_p32, List.forall_mem_cons.mpr ⟨lw_p33, List.forall_mem_cons.mpr ⟨lw_p34, List.forall_mem_cons.mpr ⟨lw_p35, List.forall_mem_cons.mpr ⟨lw_p36, List.forall_mem_cons.mpr ⟨lw_p37, List.forall_mem_cons.mpr ⟨lw_p38, List.forall_mem_cons.mpr ⟨lw_p39, List.forall_mem_cons.mpr ⟨lw_p40, List.forall_mem_cons.mpr ⟨lw_p41, List.forall_mem_cons.mpr ⟨lw_p42, List.forall_mem_cons.mpr ⟨lw_p43, List.forall_mem_cons.mpr ⟨lw_p44, List.forall_mem_cons.mpr ⟨lw_p45, List.forall_mem_cons.mpr ⟨lw_p46, List.forall_mem_cons.mpr ⟨lw_p47, fun _ h => absurd h List.not_mem_nil⟩⟩⟩⟩⟩⟩⟩⟩⟩⟩⟩⟩⟩⟩⟩⟩
theorem lw_p48 : lw_okq (⟨"TruthBridge$Adviser", "isStep", "(III)Z"⟩, 8) := ⟨⟨by decide +kernel, by decide +kernel⟩, List.mem_of_getElem? (i := 316) (by decide +kernel), List.mem_of_getElem? (i := 1123) (by decide +kernel), List.mem_of_getElem? (i := 1124) (by decide +kernel)⟩
theorem lw_p49 : lw_okq (⟨"TruthBridge$Adviser", "stepOfPlan", "(I)I"⟩, 8) := ⟨⟨by decide +kernel, by decide +kernel⟩, List.mem_of_getElem? (i := 316) (by decide +kernel), List.mem_of_getElem? (i := 1133) (by decide +kernel), List.mem_of_getElem? (i := 1134) (by decide +kernel)⟩
theorem lw_p50 : lw_okq (⟨"TruthBridge$Adviser", "hoursThrough", "(III)I"⟩, 8) := ⟨⟨by decide +kernel, by decide +kernel⟩, List.mem_of_getElem? (i := 316) (by decide +kernel), List.mem_of_getElem? (i := 1145) (by decide +kernel), List.mem_of_getElem? (i := 1146) (by decide +kernel)⟩
theorem lw_p51 : lw_okq (⟨"TruthBridge$Adviser", "lookAround", "(II)V"⟩, 8) := ⟨⟨by decide +kernel, by decide +kernel⟩, List.mem_of_getElem? (i := 316) (by decide +kernel), List.mem_of_getElem? (i := 1151) (by decide +kernel), List.mem_of_getElem? (i := 1152) (by decide +kernel)⟩
theorem lw_p52 : lw_okq (⟨"TruthBridge$Adviser", "priceOf", "(I)I"⟩, 8) := ⟨⟨by decide +kernel, by decide +kernel⟩, List.mem_of_getElem? (i := 316) (by decide +kernel), List.mem_of_getElem? (i := 1165) (by decide +kernel), List.mem_of_getElem? (i := 1166) (by decide +kernel)⟩
theorem lw_p53 : lw_okq (⟨"TruthBridge$Adviser", "listenTo", "(II)V"⟩, 8) := ⟨⟨by decide +kernel, by decide +kernel⟩, List.mem_of_getElem? (i := 316) (by decide +kernel), List.mem_of_getElem? (i := 1169) (by decide +kernel), List.mem_of_getElem? (i := 1170) (by decide +kernel)⟩
theorem lw_p54 : lw_okq (⟨"TruthBridge$Sayings", "siftSets", "(LTruthBridge$Page;)V"⟩, 7) := ⟨⟨by decide +kernel, by decide +kernel⟩, List.mem_of_getElem? (i := 64) (by decide +kernel), List.mem_of_getElem? (i := 1189) (by decide +kernel), List.mem_of_getElem? (i := 1190) (by decide +kernel)⟩
theorem lw_p55 : lw_okq (⟨"TruthBridge$Sayings", "firstSayings", "()I"⟩, 7) := ⟨⟨by decide +kernel, by decide +kernel⟩, List.mem_of_getElem? (i := 64) (by decide +kernel), List.mem_of_getElem? (i := 1193) (by decide +kernel), List.mem_of_getElem? (i := 1194) (by decide +kernel)⟩
theorem lw_p56 : lw_okq (⟨"TruthBridge$Sayings", "fitsTrials", "(LTruthBridge$Page;)Z"⟩, 7) := ⟨⟨by decide +kernel, by decide +kernel⟩, List.mem_of_getElem? (i := 64) (by decide +kernel), List.mem_of_getElem? (i := 1199) (by decide +kernel), List.mem_of_getElem? (i := 1200) (by decide +kernel)⟩
theorem lw_p57 : lw_okq (⟨"TruthBridge$Sayings", "countFollowing", "()V"⟩, 7) := ⟨⟨by decide +kernel, by decide +kernel⟩, List.mem_of_getElem? (i := 64) (by decide +kernel), List.mem_of_getElem? (i := 1207) (by decide +kernel), List.mem_of_getElem? (i := 1208) (by decide +kernel)⟩
theorem lw_p58 : lw_okq (⟨"TruthBridge$Days", "drawDay", "()V"⟩, 7) := ⟨⟨by decide +kernel, by decide +kernel⟩, List.mem_of_getElem? (i := 349) (by decide +kernel), List.mem_of_getElem? (i := 1233) (by decide +kernel), List.mem_of_getElem? (i := 1234) (by decide +kernel)⟩
theorem lw_p59 : lw_okq (⟨"TruthBridge$Days", "draw", "()I"⟩, 7) := ⟨⟨by decide +kernel, by decide +kernel⟩, List.mem_of_getElem? (i := 349) (by decide +kernel), List.mem_of_getElem? (i := 1237) (by decide +kernel), List.mem_of_getElem? (i := 1238) (by decide +kernel)⟩
theorem lw_p60 : lw_okq (⟨"TruthBridge", "landNumber", "(I)I"⟩, 10) := ⟨⟨by decide +kernel, by decide +kernel⟩, List.mem_of_getElem? (i := 24) (by decide +kernel), List.mem_of_getElem? (i := 1249) (by decide +kernel), List.mem_of_getElem? (i := 1250) (by decide +kernel)⟩
theorem lw_p61 : lw_okq (⟨"TruthBridgeModel", "put", "(I)V"⟩, 77) := ⟨⟨by decide +kernel, by decide +kernel⟩, List.mem_of_getElem? (i := 1265) (by decide +kernel), List.mem_of_getElem? (i := 1507) (by decide +kernel), List.mem_of_getElem? (i := 1508) (by decide +kernel)⟩
theorem lw_p62 : lw_okq (⟨"TruthBridgeModel", "readsAll", "()V"⟩, 77) := ⟨⟨by decide +kernel, by decide +kernel⟩, List.mem_of_getElem? (i := 1265) (by decide +kernel), List.mem_of_getElem? (i := 1519) (by decide +kernel), List.mem_of_getElem? (i := 1520) (by decide +kernel)⟩
theorem lw_p63 : lw_okq (⟨"TruthBridgeModel", "starts", "()V"⟩, 77) := ⟨⟨by decide +kernel, by decide +kernel⟩, List.mem_of_getElem? (i := 1265) (by decide +kernel), List.mem_of_getElem? (i := 1523) (by decide +kernel), List.mem_of_getElem? (i := 1524) (by decide +kernel)⟩
def lw_privs_4 : List (MethodName × Nat) := [(⟨"TruthBridge$Adviser", "isStep", "(III)Z"⟩, 8), (⟨"TruthBridge$Adviser", "stepOfPlan", "(I)I"⟩, 8), (⟨"TruthBridge$Adviser", "hoursThrough", "(III)I"⟩, 8), (⟨"TruthBridge$Adviser", "lookAround", "(II)V"⟩, 8), (⟨"TruthBridge$Adviser", "priceOf", "(I)I"⟩, 8), (⟨"TruthBridge$Adviser", "listenTo", "(II)V"⟩, 8), (⟨"TruthBridge$Sayings", "siftSets", "(LTruthBridge$Page;)V"⟩, 7), (⟨"TruthBridge$Sayings", "firstSayings", "()I"⟩, 7), (⟨"TruthBridge$Sayings", "fitsTrials", "(LTruthBridge$Page;)Z"⟩, 7), (⟨"TruthBridge$Sayings", "countFollowing", "()V"⟩, 7), (⟨"TruthBridge$Days", "drawDay", "()V"⟩, 7), (⟨"TruthBridge$Days", "draw", "()I"⟩, 7), (⟨"TruthBridge", "landNumber", "(I)I"⟩, 10), (⟨"TruthBridgeModel", "put", "(I)V"⟩, 77), (⟨"TruthBridgeModel", "readsAll", "()V"⟩, 77), (⟨"TruthBridgeModel", "starts", "()V"⟩, 77)]
theorem lw_r4 : ∀ q ∈ lw_privs_4, lw_okq q := List.forall_mem_cons.mpr ⟨lw_p48, List.forall_mem_cons.mpr ⟨lw_p49, List.forall_mem_cons.mpr ⟨lw_p50, List.forall_mem_cons.mpr ⟨lw_p51, List.forall_mem_cons.mpr ⟨lw_p52, List.forall_mem_cons.mpr ⟨lw_p53, List.forall_mem_cons.mpr ⟨lw_p54, List.forall_mem_cons.mpr ⟨lw_p55, List.forall_mem_cons.mpr ⟨lw_p56, List.forall_mem_cons.mpr ⟨lw_p57, List.forall_mem_cons.mpr ⟨lw_p58, List.forall_mem_cons.mpr ⟨lw_p59, List.forall_mem_cons.mpr ⟨lw_p60, List.forall_mem_cons.mpr ⟨lw_p61, List.forall_mem_cons.mpr ⟨lw_p62, List.forall_mem_cons.mpr ⟨lw_p63, fun _ h => absurd h List.not_mem_nil⟩⟩⟩⟩⟩⟩⟩⟩⟩⟩⟩⟩⟩⟩⟩⟩
theorem lw_p64 : lw_okq (⟨"TruthBridgeModel", "landClause", "(I)V"⟩, 77) := ⟨⟨by decide +kernel, by decide +kernel⟩, List.mem_of_getElem? (i := 1265) (by decide +kernel), List.mem_of_getElem? (i := 1527) (by decide +kernel), List.mem_of_getElem? (i := 1528) (by decide +kernel)⟩
theorem lw_p65 : lw_okq (⟨"TruthBridgeModel", "blanks", "()V"⟩, 77) := ⟨⟨by decide +kernel, by decide +kernel⟩, List.mem_of_getElem? (i := 1265) (by decide +kernel), List.mem_of_getElem? (i := 1531) (by decide +kernel), List.mem_of_getElem? (i := 1532) (by decide +kernel)⟩
theorem lw_p66 : lw_okq (⟨"TruthBridgeModel", "sign", "()I"⟩, 77) := ⟨⟨by decide +kernel, by decide +kernel⟩, List.mem_of_getElem? (i := 1265) (by decide +kernel), List.mem_of_getElem? (i := 1535) (by decide +kernel), List.mem_of_getElem? (i := 1536) (by decide +kernel)⟩
theorem lw_p67 : lw_okq (⟨"TruthBridgeModel", "stood", "(Ljava/lang/String;)Z"⟩, 77) := ⟨⟨by decide +kernel, by decide +kernel⟩, List.mem_of_getElem? (i := 1265) (by decide +kernel), List.mem_of_getElem? (i := 1547) (by decide +kernel), List.mem_of_getElem? (i := 1548) (by decide +kernel)⟩
theorem lw_p68 : lw_okq (⟨"TruthBridgeModel", "fails", "(II)V"⟩, 77) := ⟨⟨by decide +kernel, by decide +kernel⟩, List.mem_of_getElem? (i := 1265) (by decide +kernel), List.mem_of_getElem? (i := 1553) (by decide +kernel), List.mem_of_getElem? (i := 1554) (by decide +kernel)⟩
theorem lw_p69 : lw_okq (⟨"TruthBridgeModel", "isFull", "(II)Z"⟩, 77) := ⟨⟨by decide +kernel, by decide +kernel⟩, List.mem_of_getElem? (i := 1265) (by decide +kernel), List.mem_of_getElem? (i := 1557) (by decide +kernel), List.mem_of_getElem? (i := 1558) (by decide +kernel)⟩
theorem lw_p70 : lw_okq (⟨"TruthBridgeModel", "landPart", "(I)V"⟩, 77) := ⟨⟨by decide +kernel, by decide +kernel⟩, List.mem_of_getElem? (i := 1265) (by decide +kernel), List.mem_of_getElem? (i := 1561) (by decide +kernel), List.mem_of_getElem? (i := 1562) (by decide +kernel)⟩
theorem lw_p71 : lw_okq (⟨"TruthBridgeModel", "amount", "(II)I"⟩, 77) := ⟨⟨by decide +kernel, by decide +kernel⟩, List.mem_of_getElem? (i := 1265) (by decide +kernel), List.mem_of_getElem? (i := 1565) (by decide +kernel), List.mem_of_getElem? (i := 1566) (by decide +kernel)⟩
theorem lw_p72 : lw_okq (⟨"TruthBridgeModel", "digits", "(I)I"⟩, 77) := ⟨⟨by decide +kernel, by decide +kernel⟩, List.mem_of_getElem? (i := 1265) (by decide +kernel), List.mem_of_getElem? (i := 1570) (by decide +kernel), List.mem_of_getElem? (i := 1571) (by decide +kernel)⟩
theorem lw_p73 : lw_okq (⟨"TruthBridgeModel", "isDigit", "()Z"⟩, 77) := ⟨⟨by decide +kernel, by decide +kernel⟩, List.mem_of_getElem? (i := 1265) (by decide +kernel), List.mem_of_getElem? (i := 1574) (by decide +kernel), List.mem_of_getElem? (i := 1575) (by decide +kernel)⟩
theorem lw_p74 : lw_okq (⟨"TruthBridgeModel", "allRead", "()I"⟩, 77) := ⟨⟨by decide +kernel, by decide +kernel⟩, List.mem_of_getElem? (i := 1265) (by decide +kernel), List.mem_of_getElem? (i := 1583) (by decide +kernel), List.mem_of_getElem? (i := 1584) (by decide +kernel)⟩
theorem lw_p75 : lw_okq (⟨"TruthBridgeModel", "readsPath", "()V"⟩, 77) := ⟨⟨by decide +kernel, by decide +kernel⟩, List.mem_of_getElem? (i := 1265) (by decide +kernel), List.mem_of_getElem? (i := 1587) (by decide +kernel), List.mem_of_getElem? (i := 1588) (by decide +kernel)⟩
theorem lw_p76 : lw_okq (⟨"TruthBridgeModel", "goesOn", "()Z"⟩, 77) := ⟨⟨by decide +kernel, by decide +kernel⟩, List.mem_of_getElem? (i := 1265) (by decide +kernel), List.mem_of_getElem? (i := 1591) (by decide +kernel), List.mem_of_getElem? (i := 1592) (by decide +kernel)⟩
theorem lw_p77 : lw_okq (⟨"TruthBridgeModel", "worlds", "()I"⟩, 77) := ⟨⟨by decide +kernel, by decide +kernel⟩, List.mem_of_getElem? (i := 1265) (by decide +kernel), List.mem_of_getElem? (i := 1598) (by decide +kernel), List.mem_of_getElem? (i := 1599) (by decide +kernel)⟩
theorem lw_p78 : lw_okq (⟨"TruthBridgeModel", "beginsLevel", "()V"⟩, 77) := ⟨⟨by decide +kernel, by decide +kernel⟩, List.mem_of_getElem? (i := 1265) (by decide +kernel), List.mem_of_getElem? (i := 1606) (by decide +kernel), List.mem_of_getElem? (i := 1607) (by decide +kernel)⟩
theorem lw_p79 : lw_okq (⟨"TruthBridgeModel", "readsOperand", "()Z"⟩, 77) := ⟨⟨by decide +kernel, by decide +kernel⟩, List.mem_of_getElem? (i := 1265) (by decide +kernel), List.mem_of_getElem? (i := 1610) (by decide +kernel), List.mem_of_getElem? (i := 1611) (by decide +kernel)⟩
def lw_privs_5 : List (MethodName × Nat) := [(⟨"TruthBridgeModel", "landClause", "(I)V"⟩, 77), (⟨"TruthBridgeModel", "blanks", "()V"⟩, 77), (⟨"TruthBridgeModel", "sign", "()I"⟩, 77), (⟨"TruthBridgeModel", "stood", "(Ljava/lang/String;)Z"⟩, 77), (⟨"TruthBridgeModel", "fails", "(II)V"⟩, 77), (⟨"TruthBridgeModel", "isFull", "(II)Z"⟩, 77), (⟨"TruthBridgeModel", "landPart", "(I)V"⟩, 77), (⟨"TruthBridgeModel", "amount", "(II)I"⟩, 77), (⟨"TruthBridgeModel", "digits", "(I)I"⟩, 77), (⟨"TruthBridgeModel", "isDigit", "()Z"⟩, 77), (⟨"TruthBridgeModel", "allRead", "()I"⟩, 77), (⟨"TruthBridgeModel", "readsPath", "()V"⟩, 77), (⟨"TruthBridgeModel", "goesOn", "()Z"⟩, 77), (⟨"TruthBridgeModel", "worlds", "()I"⟩, 77), (⟨"TruthBridgeModel", "beginsLevel", "()V"⟩, 77), (⟨"TruthBridgeModel", "readsOperand", "()Z"⟩, 77)]
theorem lw_r5 : ∀ q ∈ lw_privs_5, lw_okq q := List.forall_mem_cons.mpr ⟨lw_p64, List.forall_mem_cons.mpr ⟨lw_p65, List.forall_mem_cons.mpr ⟨lw_p66, List.forall_mem_cons.mpr ⟨lw_p67, List.forall_mem_cons.mpr ⟨lw_p68, List.forall_mem_cons.mpr ⟨lw_p69, List.forall_mem_cons.mpr ⟨lw_p70, List.forall_mem_cons.mpr ⟨lw_p71, List.forall_mem_cons.mpr ⟨lw_p72, List.forall_mem_cons.mpr ⟨lw_p73, List.forall_mem_cons.mpr ⟨lw_p74, List.forall_mem_cons.mpr ⟨lw_p75, List.forall_mem_cons.mpr ⟨lw_p76, List.forall_mem_cons.mpr ⟨lw_p77, List.forall_mem_cons.mpr ⟨lw_p78, List.forall_mem_cons.mpr ⟨lw_p79, fun _ h => absurd h List.not_mem_nil⟩⟩⟩⟩⟩⟩⟩⟩⟩⟩⟩⟩⟩⟩⟩⟩
theorem lw_p80 : lw_okq (⟨"TruthBridgeModel", "opensOne", "(II)V"⟩, 77) := ⟨⟨by decide +kernel, by decide +kernel⟩, List.mem_of_getElem? (i := 1265) (by decide +kernel), List.mem_of_getElem? (i := 1614) (by decide +kernel), List.mem_of_getElem? (i := 1615) (by decide +kernel)⟩
theorem lw_p81 : lw_okq (⟨"TruthBridgeModel", "letterHere", "()I"⟩, 77) := ⟨⟨by decide +kernel, by decide +kernel⟩, List.mem_of_getElem? (i := 1265) (by decide +kernel), List.mem_of_getElem? (i := 1619) (by decide +kernel), List.mem_of_getElem? (i := 1620) (by decide +kernel)⟩
theorem lw_p82 : lw_okq (⟨"TruthBridgeModel", "laysLetter", "(I)V"⟩, 77) := ⟨⟨by decide +kernel, by decide +kernel⟩, List.mem_of_getElem? (i := 1265) (by decide +kernel), List.mem_of_getElem? (i := 1634) (by decide +kernel), List.mem_of_getElem? (i := 1635) (by decide +kernel)⟩
theorem lw_p83 : lw_okq (⟨"TruthBridgeModel", "operandEnds", "()V"⟩, 77) := ⟨⟨by decide +kernel, by decide +kernel⟩, List.mem_of_getElem? (i := 1265) (by decide +kernel), List.mem_of_getElem? (i := 1641) (by decide +kernel), List.mem_of_getElem? (i := 1642) (by decide +kernel)⟩
theorem lw_p84 : lw_okq (⟨"TruthBridgeModel", "readsBehind", "()Z"⟩, 77) := ⟨⟨by decide +kernel, by decide +kernel⟩, List.mem_of_getElem? (i := 1265) (by decide +kernel), List.mem_of_getElem? (i := 1645) (by decide +kernel), List.mem_of_getElem? (i := 1646) (by decide +kernel)⟩
theorem lw_p85 : lw_okq (⟨"TruthBridgeModel", "closesLevel", "()V"⟩, 77) := ⟨⟨by decide +kernel, by decide +kernel⟩, List.mem_of_getElem? (i := 1265) (by decide +kernel), List.mem_of_getElem? (i := 1649) (by decide +kernel), List.mem_of_getElem? (i := 1650) (by decide +kernel)⟩
theorem lw_p86 : lw_okq (⟨"TruthBridgeModel", "foldsOr", "()V"⟩, 77) := ⟨⟨by decide +kernel, by decide +kernel⟩, List.mem_of_getElem? (i := 1265) (by decide +kernel), List.mem_of_getElem? (i := 1653) (by decide +kernel), List.mem_of_getElem? (i := 1654) (by decide +kernel)⟩
theorem lw_p87 : lw_okq (⟨"TruthBridgeModel", "ruleClause", "(I)V"⟩, 77) := ⟨⟨by decide +kernel, by decide +kernel⟩, List.mem_of_getElem? (i := 1265) (by decide +kernel), List.mem_of_getElem? (i := 1663) (by decide +kernel), List.mem_of_getElem? (i := 1664) (by decide +kernel)⟩
theorem lw_p88 : lw_okq (⟨"TruthBridgeModel", "sum", "()V"⟩, 77) := ⟨⟨by decide +kernel, by decide +kernel⟩, List.mem_of_getElem? (i := 1265) (by decide +kernel), List.mem_of_getElem? (i := 1668) (by decide +kernel), List.mem_of_getElem? (i := 1669) (by decide +kernel)⟩
theorem lw_p89 : lw_okq (⟨"TruthBridgeModel", "term", "()V"⟩, 77) := ⟨⟨by decide +kernel, by decide +kernel⟩, List.mem_of_getElem? (i := 1265) (by decide +kernel), List.mem_of_getElem? (i := 1672) (by decide +kernel), List.mem_of_getElem? (i := 1673) (by decide +kernel)⟩
theorem lw_p90 : lw_okq (⟨"TruthBridgeModel", "value", "()V"⟩, 77) := ⟨⟨by decide +kernel, by decide +kernel⟩, List.mem_of_getElem? (i := 1265) (by decide +kernel), List.mem_of_getElem? (i := 1676) (by decide +kernel), List.mem_of_getElem? (i := 1677) (by decide +kernel)⟩
theorem lw_p91 : lw_okq (⟨"TruthBridgeModel", "isCounted", "(I)V"⟩, 77) := ⟨⟨by decide +kernel, by decide +kernel⟩, List.mem_of_getElem? (i := 1265) (by decide +kernel), List.mem_of_getElem? (i := 1680) (by decide +kernel), List.mem_of_getElem? (i := 1681) (by decide +kernel)⟩
theorem lw_p92 : lw_okq (⟨"TruthBridgeModel", "entry", "(II)V"⟩, 77) := ⟨⟨by decide +kernel, by decide +kernel⟩, List.mem_of_getElem? (i := 1265) (by decide +kernel), List.mem_of_getElem? (i := 1684) (by decide +kernel), List.mem_of_getElem? (i := 1685) (by decide +kernel)⟩
theorem lw_p93 : lw_okq (⟨"TruthBridgeModel", "takes", "(Ljava/lang/String;)Z"⟩, 77) := ⟨⟨by decide +kernel, by decide +kernel⟩, List.mem_of_getElem? (i := 1265) (by decide +kernel), List.mem_of_getElem? (i := 1701) (by decide +kernel), List.mem_of_getElem? (i := 1702) (by decide +kernel)⟩
theorem lw_p94 : lw_okq (⟨"TruthBridgeModel", "test", "()V"⟩, 77) := ⟨⟨by decide +kernel, by decide +kernel⟩, List.mem_of_getElem? (i := 1265) (by decide +kernel), List.mem_of_getElem? (i := 1705) (by decide +kernel), List.mem_of_getElem? (i := 1706) (by decide +kernel)⟩
theorem lw_p95 : lw_okq (⟨"TruthBridgeModel", "fact", "()Z"⟩, 77) := ⟨⟨by decide +kernel, by decide +kernel⟩, List.mem_of_getElem? (i := 1265) (by decide +kernel), List.mem_of_getElem? (i := 1709) (by decide +kernel), List.mem_of_getElem? (i := 1710) (by decide +kernel)⟩
def lw_privs_6 : List (MethodName × Nat) := [(⟨"TruthBridgeModel", "opensOne", "(II)V"⟩, 77), (⟨"TruthBridgeModel", "letterHere", "()I"⟩, 77), (⟨"TruthBridgeModel", "laysLetter", "(I)V"⟩, 77), (⟨"TruthBridgeModel", "operandEnds", "()V"⟩, 77), (⟨"TruthBridgeModel", "readsBehind", "()Z"⟩, 77), (⟨"TruthBridgeModel", "closesLevel", "()V"⟩, 77), (⟨"TruthBridgeModel", "foldsOr", "()V"⟩, 77), (⟨"TruthBridgeModel", "ruleClause", "(I)V"⟩, 77), (⟨"TruthBridgeModel", "sum", "()V"⟩, 77), (⟨"TruthBridgeModel", "term", "()V"⟩, 77), (⟨"TruthBridgeModel", "value", "()V"⟩, 77), (⟨"TruthBridgeModel", "isCounted", "(I)V"⟩, 77), (⟨"TruthBridgeModel", "entry", "(II)V"⟩, 77), (⟨"TruthBridgeModel", "takes", "(Ljava/lang/String;)Z"⟩, 77), (⟨"TruthBridgeModel", "test", "()V"⟩, 77), (⟨"TruthBridgeModel", "fact", "()Z"⟩, 77)]
theorem lw_r6 : ∀ q ∈ lw_privs_6, lw_okq q := List.forall_mem_cons.mpr ⟨lw_p80, List.forall_mem_cons.mpr ⟨lw_p81, List.forall_mem_cons.mpr ⟨lw_p82, List.forall_mem_cons.mpr ⟨lw_p83, List.forall_mem_cons.mpr ⟨lw_p84, List.forall_mem_cons.mpr ⟨lw_p85, List.forall_mem_cons.mpr ⟨lw_p86, List.forall_mem_cons.mpr ⟨lw_p87, List.forall_mem_cons.mpr ⟨lw_p88, List.forall_mem_cons.mpr ⟨lw_p89, List.forall_mem_cons.mpr ⟨lw_p90, List.forall_mem_cons.mpr ⟨lw_p91, List.forall_mem_cons.mpr ⟨lw_p92, List.forall_mem_cons.mpr ⟨lw_p93, List.forall_mem_cons.mpr ⟨lw_p94, List.forall_mem_cons.mpr ⟨lw_p95, fun _ h => absurd h List.not_mem_nil⟩⟩⟩⟩⟩⟩⟩⟩⟩⟩⟩⟩⟩⟩⟩⟩
theorem lw_p96 : lw_okq (⟨"TruthBridgeModel", "opens", "(I)V"⟩, 77) := ⟨⟨by decide +kernel, by decide +kernel⟩, List.mem_of_getElem? (i := 1265) (by decide +kernel), List.mem_of_getElem? (i := 1713) (by decide +kernel), List.mem_of_getElem? (i := 1714) (by decide +kernel)⟩
theorem lw_p97 : lw_okq (⟨"TruthBridgeModel", "compared", "()V"⟩, 77) := ⟨⟨by decide +kernel, by decide +kernel⟩, List.mem_of_getElem? (i := 1265) (by decide +kernel), List.mem_of_getElem? (i := 1717) (by decide +kernel), List.mem_of_getElem? (i := 1718) (by decide +kernel)⟩
theorem lw_p98 : lw_okq (⟨"TruthBridgeModel", "answers", "(I)V"⟩, 77) := ⟨⟨by decide +kernel, by decide +kernel⟩, List.mem_of_getElem? (i := 1265) (by decide +kernel), List.mem_of_getElem? (i := 1721) (by decide +kernel), List.mem_of_getElem? (i := 1722) (by decide +kernel)⟩
theorem lw_p99 : lw_okq (⟨"TruthBridgeModel", "top", "()I"⟩, 77) := ⟨⟨by decide +kernel, by decide +kernel⟩, List.mem_of_getElem? (i := 1265) (by decide +kernel), List.mem_of_getElem? (i := 1725) (by decide +kernel), List.mem_of_getElem? (i := 1726) (by decide +kernel)⟩
theorem lw_p100 : lw_okq (⟨"TruthBridgeModel", "isPerson", "(I)Z"⟩, 77) := ⟨⟨by decide +kernel, by decide +kernel⟩, List.mem_of_getElem? (i := 1265) (by decide +kernel), List.mem_of_getElem? (i := 1733) (by decide +kernel), List.mem_of_getElem? (i := 1734) (by decide +kernel)⟩
theorem lw_p101 : lw_okq (⟨"TruthBridgeModel", "manyHeld", "(I)I"⟩, 77) := ⟨⟨by decide +kernel, by decide +kernel⟩, List.mem_of_getElem? (i := 1265) (by decide +kernel), List.mem_of_getElem? (i := 1737) (by decide +kernel), List.mem_of_getElem? (i := 1738) (by decide +kernel)⟩
theorem lw_p102 : lw_okq (⟨"TruthBridgeModel", "knowsFact", "(II)Z"⟩, 77) := ⟨⟨by decide +kernel, by decide +kernel⟩, List.mem_of_getElem? (i := 1265) (by decide +kernel), List.mem_of_getElem? (i := 1744) (by decide +kernel), List.mem_of_getElem? (i := 1745) (by decide +kernel)⟩
theorem lw_p103 : lw_okq (⟨"TruthBridgeModel", "isHeld", "(II)Z"⟩, 77) := ⟨⟨by decide +kernel, by decide +kernel⟩, List.mem_of_getElem? (i := 1265) (by decide +kernel), List.mem_of_getElem? (i := 1748) (by decide +kernel), List.mem_of_getElem? (i := 1749) (by decide +kernel)⟩
theorem lw_p104 : lw_okq (⟨"TruthBridgeModel", "isFact", "(I)Z"⟩, 77) := ⟨⟨by decide +kernel, by decide +kernel⟩, List.mem_of_getElem? (i := 1265) (by decide +kernel), List.mem_of_getElem? (i := 1756) (by decide +kernel), List.mem_of_getElem? (i := 1757) (by decide +kernel)⟩
theorem lw_p105 : lw_okq (⟨"TruthBridgeModel", "isPlace", "(I)Z"⟩, 77) := ⟨⟨by decide +kernel, by decide +kernel⟩, List.mem_of_getElem? (i := 1265) (by decide +kernel), List.mem_of_getElem? (i := 1764) (by decide +kernel), List.mem_of_getElem? (i := 1765) (by decide +kernel)⟩
theorem lw_p106 : lw_okq (⟨"TruthBridgeModel", "laysWays", "()V"⟩, 77) := ⟨⟨by decide +kernel, by decide +kernel⟩, List.mem_of_getElem? (i := 1265) (by decide +kernel), List.mem_of_getElem? (i := 1772) (by decide +kernel), List.mem_of_getElem? (i := 1773) (by decide +kernel)⟩
theorem lw_p107 : lw_okq (⟨"TruthBridgeModel", "wayOf", "(II)I"⟩, 77) := ⟨⟨by decide +kernel, by decide +kernel⟩, List.mem_of_getElem? (i := 1265) (by decide +kernel), List.mem_of_getElem? (i := 1777) (by decide +kernel), List.mem_of_getElem? (i := 1778) (by decide +kernel)⟩
theorem lw_p108 : lw_okq (⟨"TruthBridgeModel", "isSaying", "(I)Z"⟩, 77) := ⟨⟨by decide +kernel, by decide +kernel⟩, List.mem_of_getElem? (i := 1265) (by decide +kernel), List.mem_of_getElem? (i := 1785) (by decide +kernel), List.mem_of_getElem? (i := 1786) (by decide +kernel)⟩
theorem lw_p109 : lw_okq (⟨"TruthBridgeModel", "isWorld", "(I)Z"⟩, 77) := ⟨⟨by decide +kernel, by decide +kernel⟩, List.mem_of_getElem? (i := 1265) (by decide +kernel), List.mem_of_getElem? (i := 1789) (by decide +kernel), List.mem_of_getElem? (i := 1790) (by decide +kernel)⟩
theorem lw_p110 : lw_okq (⟨"TruthBridgeModel", "isLand", "()Z"⟩, 77) := ⟨⟨by decide +kernel, by decide +kernel⟩, List.mem_of_getElem? (i := 1265) (by decide +kernel), List.mem_of_getElem? (i := 1793) (by decide +kernel), List.mem_of_getElem? (i := 1794) (by decide +kernel)⟩
theorem lw_p111 : lw_okq (⟨"TruthBridgeModel", "isSo", "(II)Z"⟩, 77) := ⟨⟨by decide +kernel, by decide +kernel⟩, List.mem_of_getElem? (i := 1265) (by decide +kernel), List.mem_of_getElem? (i := 1797) (by decide +kernel), List.mem_of_getElem? (i := 1798) (by decide +kernel)⟩
def lw_privs_7 : List (MethodName × Nat) := [(⟨"TruthBridgeModel", "opens", "(I)V"⟩, 77), (⟨"TruthBridgeModel", "compared", "()V"⟩, 77), (⟨"TruthBridgeModel", "answers", "(I)V"⟩, 77), (⟨"TruthBridgeModel", "top", "()I"⟩, 77), (⟨"TruthBridgeModel", "isPerson", "(I)Z"⟩, 77), (⟨"TruthBridgeModel", "manyHeld", "(I)I"⟩, 77), (⟨"TruthBridgeModel", "knowsFact", "(II)Z"⟩, 77), (⟨"TruthBridgeModel", "isHeld", "(II)Z"⟩, 77), (⟨"TruthBridgeModel", "isFact", "(I)Z"⟩, 77), (⟨"TruthBridgeModel", "isPlace", "(I)Z"⟩, 77), (⟨"TruthBridgeModel", "laysWays", "()V"⟩, 77), (⟨"TruthBridgeModel", "wayOf", "(II)I"⟩, 77), (⟨"TruthBridgeModel", "isSaying", "(I)Z"⟩, 77), (⟨"TruthBridgeModel", "isWorld", "(I)Z"⟩, 77), (⟨"TruthBridgeModel", "isLand", "()Z"⟩, 77), (⟨"TruthBridgeModel", "isSo", "(II)Z"⟩, 77)]
theorem lw_r7 : ∀ q ∈ lw_privs_7, lw_okq q := List.forall_mem_cons.mpr ⟨lw_p96, List.forall_mem_cons.mpr ⟨lw_p97, List.forall_mem_cons.mpr ⟨lw_p98, List.forall_mem_cons.mpr ⟨lw_p99, List.forall_mem_cons.mpr ⟨lw_p100, List.forall_mem_cons.mpr ⟨lw_p101, List.forall_mem_cons.mpr ⟨lw_p102, List.forall_mem_cons.mpr ⟨lw_p103, List.forall_mem_cons.mpr ⟨lw_p104, List.forall_mem_cons.mpr ⟨lw_p105, List.forall_mem_cons.mpr ⟨lw_p106, List.forall_mem_cons.mpr ⟨lw_p107, List.forall_mem_cons.mpr ⟨lw_p108, List.forall_mem_cons.mpr ⟨lw_p109, List.forall_mem_cons.mpr ⟨lw_p110, List.forall_mem_cons.mpr ⟨lw_p111, fun _ h => absurd h List.not_mem_nil⟩⟩⟩⟩⟩⟩⟩⟩⟩⟩⟩⟩⟩⟩⟩⟩
theorem lw_p112 : lw_okq (⟨"TruthBridgeModel", "isHolder", "(I)Z"⟩, 77) := ⟨⟨by decide +kernel, by decide +kernel⟩, List.mem_of_getElem? (i := 1265) (by decide +kernel), List.mem_of_getElem? (i := 1809) (by decide +kernel), List.mem_of_getElem? (i := 1810) (by decide +kernel)⟩
theorem lw_p113 : lw_okq (⟨"TruthBridgeModel", "heldBy", "(I)I"⟩, 77) := ⟨⟨by decide +kernel, by decide +kernel⟩, List.mem_of_getElem? (i := 1265) (by decide +kernel), List.mem_of_getElem? (i := 1813) (by decide +kernel), List.mem_of_getElem? (i := 1814) (by decide +kernel)⟩
theorem lw_p114 : lw_okq (⟨"TruthBridgeModel", "isKnown", "(II)Z"⟩, 77) := ⟨⟨by decide +kernel, by decide +kernel⟩, List.mem_of_getElem? (i := 1265) (by decide +kernel), List.mem_of_getElem? (i := 1817) (by decide +kernel), List.mem_of_getElem? (i := 1818) (by decide +kernel)⟩
theorem lw_p115 : lw_okq (⟨"TruthBridgeModel", "gainOf", "(I)I"⟩, 77) := ⟨⟨by decide +kernel, by decide +kernel⟩, List.mem_of_getElem? (i := 1265) (by decide +kernel), List.mem_of_getElem? (i := 1829) (by decide +kernel), List.mem_of_getElem? (i := 1830) (by decide +kernel)⟩
theorem lw_p116 : lw_okq (⟨"TruthBridgeModel", "movesAll", "(IZ)V"⟩, 77) := ⟨⟨by decide +kernel, by decide +kernel⟩, List.mem_of_getElem? (i := 1265) (by decide +kernel), List.mem_of_getElem? (i := 1841) (by decide +kernel), List.mem_of_getElem? (i := 1842) (by decide +kernel)⟩
theorem lw_p117 : lw_okq (⟨"TruthBridgeModel", "moves", "(I)I"⟩, 77) := ⟨⟨by decide +kernel, by decide +kernel⟩, List.mem_of_getElem? (i := 1265) (by decide +kernel), List.mem_of_getElem? (i := 1845) (by decide +kernel), List.mem_of_getElem? (i := 1846) (by decide +kernel)⟩
theorem lw_p118 : lw_okq (⟨"TruthBridgeModel", "movesRow", "([I)V"⟩, 77) := ⟨⟨by decide +kernel, by decide +kernel⟩, List.mem_of_getElem? (i := 1265) (by decide +kernel), List.mem_of_getElem? (i := 1849) (by decide +kernel), List.mem_of_getElem? (i := 1850) (by decide +kernel)⟩
theorem lw_p119 : lw_okq (⟨"TruthBridgeModel", "keepsAct", "()V"⟩, 77) := ⟨⟨by decide +kernel, by decide +kernel⟩, List.mem_of_getElem? (i := 1265) (by decide +kernel), List.mem_of_getElem? (i := 1857) (by decide +kernel), List.mem_of_getElem? (i := 1858) (by decide +kernel)⟩
theorem lw_p120 : lw_okq (⟨"TruthBridgeModel", "crosses", "(II)I"⟩, 77) := ⟨⟨by decide +kernel, by decide +kernel⟩, List.mem_of_getElem? (i := 1265) (by decide +kernel), List.mem_of_getElem? (i := 1861) (by decide +kernel), List.mem_of_getElem? (i := 1862) (by decide +kernel)⟩
theorem lw_p121 : lw_okq (⟨"TruthBridgeModel", "isTold", "(II)V"⟩, 77) := ⟨⟨by decide +kernel, by decide +kernel⟩, List.mem_of_getElem? (i := 1265) (by decide +kernel), List.mem_of_getElem? (i := 1865) (by decide +kernel), List.mem_of_getElem? (i := 1866) (by decide +kernel)⟩
theorem lw_p122 : lw_okq (⟨"TruthBridgeModel", "seesFact", "(II)V"⟩, 77) := ⟨⟨by decide +kernel, by decide +kernel⟩, List.mem_of_getElem? (i := 1265) (by decide +kernel), List.mem_of_getElem? (i := 1877) (by decide +kernel), List.mem_of_getElem? (i := 1878) (by decide +kernel)⟩
theorem lw_p123 : lw_okq (⟨"TruthBridgeModel", "dayPasses", "()V"⟩, 77) := ⟨⟨by decide +kernel, by decide +kernel⟩, List.mem_of_getElem? (i := 1265) (by decide +kernel), List.mem_of_getElem? (i := 1885) (by decide +kernel), List.mem_of_getElem? (i := 1886) (by decide +kernel)⟩
theorem lw_p124 : lw_okq (⟨"TruthBridgeModel", "forgets", "(I)V"⟩, 77) := ⟨⟨by decide +kernel, by decide +kernel⟩, List.mem_of_getElem? (i := 1265) (by decide +kernel), List.mem_of_getElem? (i := 1889) (by decide +kernel), List.mem_of_getElem? (i := 1890) (by decide +kernel)⟩
theorem lw_p125 : lw_okq (⟨"TruthBridgeModel", "isRule", "(I)Z"⟩, 77) := ⟨⟨by decide +kernel, by decide +kernel⟩, List.mem_of_getElem? (i := 1265) (by decide +kernel), List.mem_of_getElem? (i := 1897) (by decide +kernel), List.mem_of_getElem? (i := 1898) (by decide +kernel)⟩
theorem lw_p126 : lw_okq (⟨"TruthBridgeModel", "sayingBy", "(II)I"⟩, 77) := ⟨⟨by decide +kernel, by decide +kernel⟩, List.mem_of_getElem? (i := 1265) (by decide +kernel), List.mem_of_getElem? (i := 1902) (by decide +kernel), List.mem_of_getElem? (i := 1903) (by decide +kernel)⟩
theorem lw_p127 : lw_okq (⟨"TruthBridgeModel", "asks", "(II)V"⟩, 77) := ⟨⟨by decide +kernel, by decide +kernel⟩, List.mem_of_getElem? (i := 1265) (by decide +kernel), List.mem_of_getElem? (i := 1906) (by decide +kernel), List.mem_of_getElem? (i := 1907) (by decide +kernel)⟩
def lw_privs_8 : List (MethodName × Nat) := [(⟨"TruthBridgeModel", "isHolder", "(I)Z"⟩, 77), (⟨"TruthBridgeModel", "heldBy", "(I)I"⟩, 77), (⟨"TruthBridgeModel", "isKnown", "(II)Z"⟩, 77), (⟨"TruthBridgeModel", "gainOf", "(I)I"⟩, 77), (⟨"TruthBridgeModel", "movesAll", "(IZ)V"⟩, 77), (⟨"TruthBridgeModel", "moves", "(I)I"⟩, 77), (⟨"TruthBridgeModel", "movesRow", "([I)V"⟩, 77), (⟨"TruthBridgeModel", "keepsAct", "()V"⟩, 77), (⟨"TruthBridgeModel", "crosses", "(II)I"⟩, 77), (⟨"TruthBridgeModel", "isTold", "(II)V"⟩, 77), (⟨"TruthBridgeModel", "seesFact", "(II)V"⟩, 77), (⟨"TruthBridgeModel", "dayPasses", "()V"⟩, 77), (⟨"TruthBridgeModel", "forgets", "(I)V"⟩, 77), (⟨"TruthBridgeModel", "isRule", "(I)Z"⟩, 77), (⟨"TruthBridgeModel", "sayingBy", "(II)I"⟩, 77), (⟨"TruthBridgeModel", "asks", "(II)V"⟩, 77)]
theorem lw_r8 : ∀ q ∈ lw_privs_8, lw_okq q := List.forall_mem_cons.mpr ⟨lw_p112, List.forall_mem_cons.mpr ⟨lw_p113, List.forall_mem_cons.mpr ⟨lw_p114, List.forall_mem_cons.mpr ⟨lw_p115, List.forall_mem_cons.mpr ⟨lw_p116, List.forall_mem_cons.mpr ⟨lw_p117, List.forall_mem_cons.mpr ⟨lw_p118, List.forall_mem_cons.mpr ⟨lw_p119, List.forall_mem_cons.mpr ⟨lw_p120, List.forall_mem_cons.mpr ⟨lw_p121, List.forall_mem_cons.mpr ⟨lw_p122, List.forall_mem_cons.mpr ⟨lw_p123, List.forall_mem_cons.mpr ⟨lw_p124, List.forall_mem_cons.mpr ⟨lw_p125, List.forall_mem_cons.mpr ⟨lw_p126, List.forall_mem_cons.mpr ⟨lw_p127, fun _ h => absurd h List.not_mem_nil⟩⟩⟩⟩⟩⟩⟩⟩⟩⟩⟩⟩⟩⟩⟩⟩
theorem lw_p128 : lw_okq (⟨"TruthBridgeModel", "others", "(I)I"⟩, 77) := ⟨⟨by decide +kernel, by decide +kernel⟩, List.mem_of_getElem? (i := 1265) (by decide +kernel), List.mem_of_getElem? (i := 1910) (by decide +kernel), List.mem_of_getElem? (i := 1911) (by decide +kernel)⟩
theorem lw_p129 : lw_okq (⟨"TruthBridgeModel", "wanted", "(I)J"⟩, 77) := ⟨⟨by decide +kernel, by decide +kernel⟩, List.mem_of_getElem? (i := 1265) (by decide +kernel), List.mem_of_getElem? (i := 1914) (by decide +kernel), List.mem_of_getElem? (i := 1915) (by decide +kernel)⟩
theorem lw_p130 : lw_okq (⟨"TruthBridgeModel", "answer", "(III)J"⟩, 77) := ⟨⟨by decide +kernel, by decide +kernel⟩, List.mem_of_getElem? (i := 1265) (by decide +kernel), List.mem_of_getElem? (i := 1918) (by decide +kernel), List.mem_of_getElem? (i := 1919) (by decide +kernel)⟩
theorem lw_p131 : lw_okq (⟨"TruthBridgeModel", "isSet", "(I)Z"⟩, 77) := ⟨⟨by decide +kernel, by decide +kernel⟩, List.mem_of_getElem? (i := 1265) (by decide +kernel), List.mem_of_getElem? (i := 1932) (by decide +kernel), List.mem_of_getElem? (i := 1933) (by decide +kernel)⟩
theorem lw_p132 : lw_okq (⟨"TruthBridgeModel", "doesFollow", "(II)Z"⟩, 77) := ⟨⟨by decide +kernel, by decide +kernel⟩, List.mem_of_getElem? (i := 1265) (by decide +kernel), List.mem_of_getElem? (i := 1936) (by decide +kernel), List.mem_of_getElem? (i := 1937) (by decide +kernel)⟩
theorem lw_p133 : lw_okq (⟨"TruthBridgeModel", "getsOver", "(II)Z"⟩, 77) := ⟨⟨by decide +kernel, by decide +kernel⟩, List.mem_of_getElem? (i := 1265) (by decide +kernel), List.mem_of_getElem? (i := 1957) (by decide +kernel), List.mem_of_getElem? (i := 1958) (by decide +kernel)⟩
theorem lw_p134 : lw_okq (⟨"TruthBridgeModel", "keepsAll", "()V"⟩, 77) := ⟨⟨by decide +kernel, by decide +kernel⟩, List.mem_of_getElem? (i := 1265) (by decide +kernel), List.mem_of_getElem? (i := 1961) (by decide +kernel), List.mem_of_getElem? (i := 1962) (by decide +kernel)⟩
theorem lw_p135 : lw_okq (⟨"TruthBridgeModel", "carriesAll", "(IZ)V"⟩, 77) := ⟨⟨by decide +kernel, by decide +kernel⟩, List.mem_of_getElem? (i := 1265) (by decide +kernel), List.mem_of_getElem? (i := 1965) (by decide +kernel), List.mem_of_getElem? (i := 1966) (by decide +kernel)⟩
theorem lw_p136 : lw_okq (⟨"TruthBridgeModel", "carryRow", "([I)V"⟩, 77) := ⟨⟨by decide +kernel, by decide +kernel⟩, List.mem_of_getElem? (i := 1265) (by decide +kernel), List.mem_of_getElem? (i := 1969) (by decide +kernel), List.mem_of_getElem? (i := 1970) (by decide +kernel)⟩
theorem lw_p137 : lw_okq (⟨"TruthBridgeModel", "canGetOver", "(I)Z"⟩, 77) := ⟨⟨by decide +kernel, by decide +kernel⟩, List.mem_of_getElem? (i := 1265) (by decide +kernel), List.mem_of_getElem? (i := 1973) (by decide +kernel), List.mem_of_getElem? (i := 1974) (by decide +kernel)⟩
theorem lw_p138 : lw_okq (⟨"TruthBridgeModel", "laysBack", "()V"⟩, 77) := ⟨⟨by decide +kernel, by decide +kernel⟩, List.mem_of_getElem? (i := 1265) (by decide +kernel), List.mem_of_getElem? (i := 1977) (by decide +kernel), List.mem_of_getElem? (i := 1978) (by decide +kernel)⟩
theorem lw_p139 : lw_okq (⟨"TruthBridgeModel", "laysThere", "(I)V"⟩, 77) := ⟨⟨by decide +kernel, by decide +kernel⟩, List.mem_of_getElem? (i := 1265) (by decide +kernel), List.mem_of_getElem? (i := 1986) (by decide +kernel), List.mem_of_getElem? (i := 1987) (by decide +kernel)⟩
theorem lw_p140 : lw_okq (⟨"TruthBridgeModel", "findsPlan", "()V"⟩, 77) := ⟨⟨by decide +kernel, by decide +kernel⟩, List.mem_of_getElem? (i := 1265) (by decide +kernel), List.mem_of_getElem? (i := 1990) (by decide +kernel), List.mem_of_getElem? (i := 1991) (by decide +kernel)⟩
theorem lw_p141 : lw_okq (⟨"TruthBridgeModel", "bridgeTo", "(IZ)V"⟩, 77) := ⟨⟨by decide +kernel, by decide +kernel⟩, List.mem_of_getElem? (i := 1265) (by decide +kernel), List.mem_of_getElem? (i := 1994) (by decide +kernel), List.mem_of_getElem? (i := 1995) (by decide +kernel)⟩
theorem lw_p142 : lw_okq (⟨"TruthBridgeModel", "isUsed", "(II)Z"⟩, 77) := ⟨⟨by decide +kernel, by decide +kernel⟩, List.mem_of_getElem? (i := 1265) (by decide +kernel), List.mem_of_getElem? (i := 1998) (by decide +kernel), List.mem_of_getElem? (i := 1999) (by decide +kernel)⟩
theorem lw_p143 : lw_okq (⟨"TruthBridgeModel", "laysWalks", "()V"⟩, 77) := ⟨⟨by decide +kernel, by decide +kernel⟩, List.mem_of_getElem? (i := 1265) (by decide +kernel), List.mem_of_getElem? (i := 2006) (by decide +kernel), List.mem_of_getElem? (i := 2007) (by decide +kernel)⟩
def lw_privs_9 : List (MethodName × Nat) := [(⟨"TruthBridgeModel", "others", "(I)I"⟩, 77), (⟨"TruthBridgeModel", "wanted", "(I)J"⟩, 77), (⟨"TruthBridgeModel", "answer", "(III)J"⟩, 77), (⟨"TruthBridgeModel", "isSet", "(I)Z"⟩, 77), (⟨"TruthBridgeModel", "doesFollow", "(II)Z"⟩, 77), (⟨"TruthBridgeModel", "getsOver", "(II)Z"⟩, 77), (⟨"TruthBridgeModel", "keepsAll", "()V"⟩, 77), (⟨"TruthBridgeModel", "carriesAll", "(IZ)V"⟩, 77), (⟨"TruthBridgeModel", "carryRow", "([I)V"⟩, 77), (⟨"TruthBridgeModel", "canGetOver", "(I)Z"⟩, 77), (⟨"TruthBridgeModel", "laysBack", "()V"⟩, 77), (⟨"TruthBridgeModel", "laysThere", "(I)V"⟩, 77), (⟨"TruthBridgeModel", "findsPlan", "()V"⟩, 77), (⟨"TruthBridgeModel", "bridgeTo", "(IZ)V"⟩, 77), (⟨"TruthBridgeModel", "isUsed", "(II)Z"⟩, 77), (⟨"TruthBridgeModel", "laysWalks", "()V"⟩, 77)]
theorem lw_r9 : ∀ q ∈ lw_privs_9, lw_okq q := List.forall_mem_cons.mpr ⟨lw_p128, List.forall_mem_cons.mpr ⟨lw_p129, List.forall_mem_cons.mpr ⟨lw_p130, List.forall_mem_cons.mpr ⟨lw_p131, List.forall_mem_cons.mpr ⟨lw_p132, List.forall_mem_cons.mpr ⟨lw_p133, List.forall_mem_cons.mpr ⟨lw_p134, List.forall_mem_cons.mpr ⟨lw_p135, List.forall_mem_cons.mpr ⟨lw_p136, List.forall_mem_cons.mpr ⟨lw_p137, List.forall_mem_cons.mpr ⟨lw_p138, List.forall_mem_cons.mpr ⟨lw_p139, List.forall_mem_cons.mpr ⟨lw_p140, List.forall_mem_cons.mpr ⟨lw_p141, List.forall_mem_cons.mpr ⟨lw_p142, List.forall_mem_cons.mpr ⟨lw_p143, fun _ h => absurd h List.not_mem_nil⟩⟩⟩⟩⟩⟩⟩⟩⟩⟩⟩⟩⟩⟩⟩⟩
theorem lw_p144 : lw_okq (⟨"TruthBridgeModel", "hoursOf", "(I)I"⟩, 77) := ⟨⟨by decide +kernel, by decide +kernel⟩, List.mem_of_getElem? (i := 1265) (by decide +kernel), List.mem_of_getElem? (i := 2010) (by decide +kernel), List.mem_of_getElem? (i := 2011) (by decide +kernel)⟩
theorem lw_p145 : lw_okq (⟨"TruthBridgeModel", "firstOnes", "()I"⟩, 77) := ⟨⟨by decide +kernel, by decide +kernel⟩, List.mem_of_getElem? (i := 1265) (by decide +kernel), List.mem_of_getElem? (i := 2027) (by decide +kernel), List.mem_of_getElem? (i := 2028) (by decide +kernel)⟩
theorem lw_p146 : lw_okq (⟨"TruthBridgeModel", "doesFit", "(I)Z"⟩, 77) := ⟨⟨by decide +kernel, by decide +kernel⟩, List.mem_of_getElem? (i := 1265) (by decide +kernel), List.mem_of_getElem? (i := 2031) (by decide +kernel), List.mem_of_getElem? (i := 2032) (by decide +kernel)⟩
theorem lw_p147 : lw_okq (⟨"TruthBridgeModel", "drawnDays", "(I)V"⟩, 77) := ⟨⟨by decide +kernel, by decide +kernel⟩, List.mem_of_getElem? (i := 1265) (by decide +kernel), List.mem_of_getElem? (i := 2048) (by decide +kernel), List.mem_of_getElem? (i := 2049) (by decide +kernel)⟩
theorem lw_p148 : lw_okq (⟨"TruthBridgeModel", "draws", "(I)I"⟩, 77) := ⟨⟨by decide +kernel, by decide +kernel⟩, List.mem_of_getElem? (i := 1265) (by decide +kernel), List.mem_of_getElem? (i := 2052) (by decide +kernel), List.mem_of_getElem? (i := 2053) (by decide +kernel)⟩
def lw_privs_10 : List (MethodName × Nat) := [(⟨"TruthBridgeModel", "hoursOf", "(I)I"⟩, 77), (⟨"TruthBridgeModel", "firstOnes", "()I"⟩, 77), (⟨"TruthBridgeModel", "doesFit", "(I)Z"⟩, 77), (⟨"TruthBridgeModel", "drawnDays", "(I)V"⟩, 77), (⟨"TruthBridgeModel", "draws", "(I)I"⟩, 77)]
theorem lw_r10 : ∀ q ∈ lw_privs_10, lw_okq q := List.forall_mem_cons.mpr ⟨lw_p144, List.forall_mem_cons.mpr ⟨lw_p145, List.forall_mem_cons.mpr ⟨lw_p146, List.forall_mem_cons.mpr ⟨lw_p147, List.forall_mem_cons.mpr ⟨lw_p148, fun _ h => absurd h List.not_mem_nil⟩⟩⟩⟩⟩
def lw_privs : List (MethodName × Nat) := lw_privs_1 ++ (lw_privs_2 ++ (lw_privs_3 ++ (lw_privs_4 ++ (lw_privs_5 ++ (lw_privs_6 ++ (lw_privs_7 ++ (lw_privs_8 ++ (lw_privs_9 ++ (lw_privs_10)))))))))
def lw_tbl : List Cond := k2_sels lw_privs ++ tables_1
theorem lw_privs_ok : ∀ q ∈ lw_privs, lw_okq q := by
  show ∀ q ∈ lw_privs_1 ++ (lw_privs_2 ++ (lw_privs_3 ++ (lw_privs_4 ++ (lw_privs_5 ++ (lw_privs_6 ++ (lw_privs_7 ++ (lw_privs_8 ++ (lw_privs_9 ++ (lw_privs_10))))))))), lw_okq q
  exact List.forall_mem_append.mpr ⟨lw_r1, List.forall_mem_append.mpr ⟨lw_r2, List.forall_mem_append.mpr ⟨lw_r3, List.forall_mem_append.mpr ⟨lw_r4, List.forall_mem_append.mpr ⟨lw_r5, List.forall_mem_append.mpr ⟨lw_r6, List.forall_mem_append.mpr ⟨lw_r7, List.forall_mem_append.mpr ⟨lw_r8, List.forall_mem_append.mpr ⟨lw_r9, lw_r10⟩⟩⟩⟩⟩⟩⟩⟩⟩
def RX0 : String := "TruthBridge$Adviser"
def TX0 : u_T := fun k => match k with
  | 0 => ("TruthBridge$Adviser", "page", "LTruthBridge$Page;", true)
  | 1 => ("TruthBridge$Adviser", "sayings", "LTruthBridge$Sayings;", true)
  | 2 => ("TruthBridge$Adviser", "mind", "LTruthBridge$Worlds;", true)
  | 3 => ("TruthBridge$Adviser", "planned", "[LTruthBridge$Worlds;", true)
  | 4 => ("TruthBridge$Adviser", "crossers", "[I", true)
  | 5 => ("TruthBridge$Adviser", "crossersKnow", "[I", true)
  | 6 => ("TruthBridge$Adviser", "crosserCount", "I", false)
  | _ => ("TruthBridge$Adviser", "plans", "[I", true)
def tyX0 : Nat → FieldType := fun k => match k with
  | 0 => .object "TruthBridge$Page"
  | 1 => .object "TruthBridge$Sayings"
  | 2 => .object "TruthBridge$Worlds"
  | 3 => .array (.object "TruthBridge$Worlds")
  | 4 => .array .int
  | 5 => .array .int
  | 6 => .int
  | _ => .array .int
abbrev wsX00 : List Cond := u_ws RX0 TX0 8
theorem nmX0 : ∀ a, a < 8 → ∀ b, b < 8 → a ≠ b → (TX0 a).2.1 ≠ (TX0 b).2.1 := by decide +kernel
theorem tyX0_ok : ∀ k, k < 8 → parseFieldDescriptor (TX0 k).2.2.1 = some (tyX0 k) := by decide +kernel
def RX1 : String := "TruthBridge$Days"
def TX1 : u_T := fun k => match k with
  | 0 => ("TruthBridge$Days", "page", "LTruthBridge$Page;", true)
  | 1 => ("TruthBridge$Days", "sayings", "LTruthBridge$Sayings;", true)
  | 2 => ("TruthBridge$Days", "words", "[J", true)
  | 3 => ("TruthBridge$Days", "drawn", "LTruthBridge$Moment;", true)
  | 4 => ("TruthBridge$Days", "x", "I", false)
  | 5 => ("TruthBridge$Days", "over", "I", false)
  | _ => ("TruthBridge$Days", "fell", "I", false)
def tyX1 : Nat → FieldType := fun k => match k with
  | 0 => .object "TruthBridge$Page"
  | 1 => .object "TruthBridge$Sayings"
  | 2 => .array .long
  | 3 => .object "TruthBridge$Moment"
  | 4 => .int
  | 5 => .int
  | _ => .int
abbrev wsX10 : List Cond := u_ws RX1 TX1 7
theorem nmX1 : ∀ a, a < 7 → ∀ b, b < 7 → a ≠ b → (TX1 a).2.1 ≠ (TX1 b).2.1 := by decide +kernel
theorem tyX1_ok : ∀ k, k < 7 → parseFieldDescriptor (TX1 k).2.2.1 = some (tyX1 k) := by decide +kernel
def RX2 : String := "TruthBridge$Land"
def TX2 : u_T := fun k => match k with
  | 0 => ("TruthBridge$Land", "facts", "I", false)
  | 1 => ("TruthBridge$Land", "firstFacts", "I", false)
  | 2 => ("TruthBridge$Land", "people", "I", false)
  | 3 => ("TruthBridge$Land", "firstSides", "I", false)
  | 4 => ("TruthBridge$Land", "firstKnown", "[I", true)
  | 5 => ("TruthBridge$Land", "weights", "[I", true)
  | 6 => ("TruthBridge$Land", "prices", "[I", true)
  | 7 => ("TruthBridge$Land", "places", "I", false)
  | 8 => ("TruthBridge$Land", "placeFacts", "[I", true)
  | 9 => ("TruthBridge$Land", "paths", "I", false)
  | 10 => ("TruthBridge$Land", "ways", "[I", true)
  | 11 => ("TruthBridge$Land", "turns", "I", false)
  | 12 => ("TruthBridge$Land", "turnFacts", "[I", true)
  | _ => ("TruthBridge$Land", "turnDays", "[I", true)
def tyX2 : Nat → FieldType := fun k => match k with
  | 0 => .int
  | 1 => .int
  | 2 => .int
  | 3 => .int
  | 4 => .array .int
  | 5 => .array .int
  | 6 => .array .int
  | 7 => .int
  | 8 => .array .int
  | 9 => .int
  | 10 => .array .int
  | 11 => .int
  | 12 => .array .int
  | _ => .array .int
abbrev wsX20 : List Cond := u_ws RX2 TX2 14
theorem nmX2 : ∀ a, a < 14 → ∀ b, b < 14 → a ≠ b → (TX2 a).2.1 ≠ (TX2 b).2.1 := by decide +kernel
theorem tyX2_ok : ∀ k, k < 14 → parseFieldDescriptor (TX2 k).2.2.1 = some (tyX2 k) := by decide +kernel
def RX3 : String := "TruthBridge$Moment"
def TX3 : u_T := fun k => match k with
  | 0 => ("TruthBridge$Moment", "day", "I", false)
  | 1 => ("TruthBridge$Moment", "facts", "I", false)
  | 2 => ("TruthBridge$Moment", "sides", "I", false)
  | 3 => ("TruthBridge$Moment", "fallen", "I", false)
  | 4 => ("TruthBridge$Moment", "hours", "[I", true)
  | _ => ("TruthBridge$Moment", "held", "[LTruthBridge$Worlds;", true)
def tyX3 : Nat → FieldType := fun k => match k with
  | 0 => .int
  | 1 => .int
  | 2 => .int
  | 3 => .int
  | 4 => .array .int
  | _ => .array (.object "TruthBridge$Worlds")
abbrev wsX30 : List Cond := u_ws RX3 TX3 6
theorem nmX3 : ∀ a, a < 6 → ∀ b, b < 6 → a ≠ b → (TX3 a).2.1 ≠ (TX3 b).2.1 := by decide +kernel
theorem tyX3_ok : ∀ k, k < 6 → parseFieldDescriptor (TX3 k).2.2.1 = some (tyX3 k) := by decide +kernel
def RX4 : String := "TruthBridge$Page"
def TX4 : u_T := fun k => match k with
  | 0 => ("TruthBridge$Page", "land", "LTruthBridge$Land;", false)
  | 1 => ("TruthBridge$Page", "moment", "LTruthBridge$Moment;", true)
  | 2 => ("TruthBridge$Page", "past", "[LTruthBridge$Moment;", true)
  | 3 => ("TruthBridge$Page", "undoable", "I", false)
  | 4 => ("TruthBridge$Page", "trials", "I", false)
  | 5 => ("TruthBridge$Page", "trialSayings", "[I", true)
  | 6 => ("TruthBridge$Page", "trialFalls", "I", false)
  | _ => ("TruthBridge$Page", "x", "I", false)
def tyX4 : Nat → FieldType := fun k => match k with
  | 0 => .object "TruthBridge$Land"
  | 1 => .object "TruthBridge$Moment"
  | 2 => .array (.object "TruthBridge$Moment")
  | 3 => .int
  | 4 => .int
  | 5 => .array .int
  | 6 => .int
  | _ => .int
abbrev wsX40 : List Cond := u_ws RX4 TX4 8
theorem nmX4 : ∀ a, a < 8 → ∀ b, b < 8 → a ≠ b → (TX4 a).2.1 ≠ (TX4 b).2.1 := by decide +kernel
theorem tyX4_ok : ∀ k, k < 8 → parseFieldDescriptor (TX4 k).2.2.1 = some (tyX4 k) := by decide +kernel
def RX5 : String := "TruthBridge$Rule"
def TX5 : u_T := fun k => match k with
  | 0 => ("TruthBridge$Rule", "code", "[I", true)
  | 1 => ("TruthBridge$Rule", "clauses", "I", true)
  | 2 => ("TruthBridge$Rule", "starts", "[I", true)
  | 3 => ("TruthBridge$Rule", "tests", "[I", true)
  | _ => ("TruthBridge$Rule", "open", "[J", true)
def tyX5 : Nat → FieldType := fun k => match k with
  | 0 => .array .int
  | 1 => .int
  | 2 => .array .int
  | 3 => .array .int
  | _ => .array .long
abbrev wsX50 : List Cond := u_ws RX5 TX5 5
theorem nmX5 : ∀ a, a < 5 → ∀ b, b < 5 → a ≠ b → (TX5 a).2.1 ≠ (TX5 b).2.1 := by decide +kernel
theorem tyX5_ok : ∀ k, k < 5 → parseFieldDescriptor (TX5 k).2.2.1 = some (tyX5 k) := by decide +kernel
def RX6 : String := "TruthBridge$RuleReader"
def TX6 : u_T := fun k => match k with
  | 0 => ("TruthBridge$RuleReader", "text", "LTruthBridge$Text;", true)
  | 1 => ("TruthBridge$RuleReader", "code", "[I", true)
  | 2 => ("TruthBridge$RuleReader", "length", "I", false)
  | 3 => ("TruthBridge$RuleReader", "items", "I", false)
  | 4 => ("TruthBridge$RuleReader", "clauses", "I", false)
  | 5 => ("TruthBridge$RuleReader", "starts", "[I", true)
  | _ => ("TruthBridge$RuleReader", "tests", "[I", true)
def tyX6 : Nat → FieldType := fun k => match k with
  | 0 => .object "TruthBridge$Text"
  | 1 => .array .int
  | 2 => .int
  | 3 => .int
  | 4 => .int
  | 5 => .array .int
  | _ => .array .int
abbrev wsX60 : List Cond := u_ws RX6 TX6 7
theorem nmX6 : ∀ a, a < 7 → ∀ b, b < 7 → a ≠ b → (TX6 a).2.1 ≠ (TX6 b).2.1 := by decide +kernel
theorem tyX6_ok : ∀ k, k < 7 → parseFieldDescriptor (TX6 k).2.2.1 = some (tyX6 k) := by decide +kernel
def RX7 : String := "TruthBridge$SayingReader"
def TX7 : u_T := fun k => match k with
  | 0 => ("TruthBridge$SayingReader", "text", "LTruthBridge$Text;", true)
  | _ => ("TruthBridge$SayingReader", "letters", "I", false)
def tyX7 : Nat → FieldType := fun k => match k with
  | 0 => .object "TruthBridge$Text"
  | _ => .int
abbrev wsX70 : List Cond := u_ws RX7 TX7 2
theorem nmX7 : ∀ a, a < 2 → ∀ b, b < 2 → a ≠ b → (TX7 a).2.1 ≠ (TX7 b).2.1 := by decide +kernel
theorem tyX7_ok : ∀ k, k < 2 → parseFieldDescriptor (TX7 k).2.2.1 = some (tyX7 k) := by decide +kernel
def RX8 : String := "TruthBridge$Sayings"
def TX8 : u_T := fun k => match k with
  | 0 => ("TruthBridge$Sayings", "rows", "[LTruthBridge$Worlds;", true)
  | 1 => ("TruthBridge$Sayings", "size", "I", false)
  | 2 => ("TruthBridge$Sayings", "meet", "LTruthBridge$Worlds;", true)
  | 3 => ("TruthBridge$Sayings", "following", "[I", true)
  | 4 => ("TruthBridge$Sayings", "fitting", "I", false)
  | 5 => ("TruthBridge$Sayings", "inAll", "I", false)
  | _ => ("TruthBridge$Sayings", "inAny", "I", false)
def tyX8 : Nat → FieldType := fun k => match k with
  | 0 => .array (.object "TruthBridge$Worlds")
  | 1 => .int
  | 2 => .object "TruthBridge$Worlds"
  | 3 => .array .int
  | 4 => .int
  | 5 => .int
  | _ => .int
abbrev wsX80 : List Cond := u_ws RX8 TX8 7
theorem nmX8 : ∀ a, a < 7 → ∀ b, b < 7 → a ≠ b → (TX8 a).2.1 ≠ (TX8 b).2.1 := by decide +kernel
theorem tyX8_ok : ∀ k, k < 7 → parseFieldDescriptor (TX8 k).2.2.1 = some (tyX8 k) := by decide +kernel
def RX9 : String := "TruthBridge$Text"
def TX9 : u_T := fun k => match k with
  | 0 => ("TruthBridge$Text", "bytes", "[B", true)
  | 1 => ("TruthBridge$Text", "length", "I", false)
  | 2 => ("TruthBridge$Text", "fault", "I", false)
  | 3 => ("TruthBridge$Text", "tokens", "[I", true)
  | 4 => ("TruthBridge$Text", "places", "[I", true)
  | 5 => ("TruthBridge$Text", "size", "I", false)
  | _ => ("TruthBridge$Text", "current", "I", false)
def tyX9 : Nat → FieldType := fun k => match k with
  | 0 => .array .byte
  | 1 => .int
  | 2 => .int
  | 3 => .array .int
  | 4 => .array .int
  | 5 => .int
  | _ => .int
abbrev wsX90 : List Cond := u_ws RX9 TX9 7
theorem nmX9 : ∀ a, a < 7 → ∀ b, b < 7 → a ≠ b → (TX9 a).2.1 ≠ (TX9 b).2.1 := by decide +kernel
theorem tyX9_ok : ∀ k, k < 7 → parseFieldDescriptor (TX9 k).2.2.1 = some (tyX9 k) := by decide +kernel
def RX10 : String := "TruthBridge$Worlds"
def TX10 : u_T := fun k => match k with
  | 0 => ("TruthBridge$Worlds", "a", "J", false)
  | 1 => ("TruthBridge$Worlds", "b", "J", false)
  | 2 => ("TruthBridge$Worlds", "c", "J", false)
  | _ => ("TruthBridge$Worlds", "d", "J", false)
def tyX10 : Nat → FieldType := fun k => match k with
  | 0 => .long
  | 1 => .long
  | 2 => .long
  | _ => .long
abbrev wsX100 : List Cond := u_ws RX10 TX10 4
theorem nmX10 : ∀ a, a < 4 → ∀ b, b < 4 → a ≠ b → (TX10 a).2.1 ≠ (TX10 b).2.1 := by decide +kernel
theorem tyX10_ok : ∀ k, k < 4 → parseFieldDescriptor (TX10 k).2.2.1 = some (tyX10 k) := by decide +kernel
def RX11 : String := "TruthBridge"
def TX11 : u_T := fun k => match k with
  | 0 => ("TruthBridge", "tape", "LTruthBridge$Text;", true)
  | 1 => ("TruthBridge", "sayingReader", "LTruthBridge$SayingReader;", true)
  | 2 => ("TruthBridge", "ruleReader", "LTruthBridge$RuleReader;", true)
  | 3 => ("TruthBridge", "sayings", "LTruthBridge$Sayings;", true)
  | 4 => ("TruthBridge", "rules", "[LTruthBridge$Rule;", true)
  | 5 => ("TruthBridge", "ruleCount", "I", false)
  | 6 => ("TruthBridge", "now", "LTruthBridge$Page;", true)
  | 7 => ("TruthBridge", "images", "[LTruthBridge$Page;", true)
  | 8 => ("TruthBridge", "adviser", "LTruthBridge$Adviser;", true)
  | _ => ("TruthBridge", "days", "LTruthBridge$Days;", true)
def tyX11 : Nat → FieldType := fun k => match k with
  | 0 => .object "TruthBridge$Text"
  | 1 => .object "TruthBridge$SayingReader"
  | 2 => .object "TruthBridge$RuleReader"
  | 3 => .object "TruthBridge$Sayings"
  | 4 => .array (.object "TruthBridge$Rule")
  | 5 => .int
  | 6 => .object "TruthBridge$Page"
  | 7 => .array (.object "TruthBridge$Page")
  | 8 => .object "TruthBridge$Adviser"
  | _ => .object "TruthBridge$Days"
abbrev wsX110 : List Cond := u_ws RX11 TX11 10
theorem nmX11 : ∀ a, a < 10 → ∀ b, b < 10 → a ≠ b → (TX11 a).2.1 ≠ (TX11 b).2.1 := by decide +kernel
theorem tyX11_ok : ∀ k, k < 10 → parseFieldDescriptor (TX11 k).2.2.1 = some (tyX11 k) := by decide +kernel
def RX12 : String := "TruthBridgeModel"
def TX12 : u_T := fun k => match k with
  | 0 => ("TruthBridgeModel", "thrown", "I", false)
  | 1 => ("TruthBridgeModel", "scalar", "[I", true)
  | 2 => ("TruthBridgeModel", "side", "[I", true)
  | 3 => ("TruthBridgeModel", "weight", "[I", true)
  | 4 => ("TruthBridgeModel", "price", "[I", true)
  | 5 => ("TruthBridgeModel", "gone", "[I", true)
  | 6 => ("TruthBridgeModel", "fell", "[I", true)
  | 7 => ("TruthBridgeModel", "placeFact", "[I", true)
  | 8 => ("TruthBridgeModel", "pathOne", "[I", true)
  | 9 => ("TruthBridgeModel", "pathOther", "[I", true)
  | 10 => ("TruthBridgeModel", "pathHours", "[I", true)
  | 11 => ("TruthBridgeModel", "turnFact", "[I", true)
  | 12 => ("TruthBridgeModel", "turnDay", "[I", true)
  | 13 => ("TruthBridgeModel", "trialSaying", "[I", true)
  | 14 => ("TruthBridgeModel", "trialFell", "[I", true)
  | 15 => ("TruthBridgeModel", "held", "[I", true)
  | 16 => ("TruthBridgeModel", "newScalar", "[I", true)
  | 17 => ("TruthBridgeModel", "newSide", "[I", true)
  | 18 => ("TruthBridgeModel", "newWeight", "[I", true)
  | 19 => ("TruthBridgeModel", "newKnown", "[I", true)
  | 20 => ("TruthBridgeModel", "newPrice", "[I", true)
  | 21 => ("TruthBridgeModel", "newPlaceFact", "[I", true)
  | 22 => ("TruthBridgeModel", "newPathOne", "[I", true)
  | 23 => ("TruthBridgeModel", "newPathOther", "[I", true)
  | 24 => ("TruthBridgeModel", "newPathHours", "[I", true)
  | 25 => ("TruthBridgeModel", "newTurnFact", "[I", true)
  | 26 => ("TruthBridgeModel", "newTurnDay", "[I", true)
  | 27 => ("TruthBridgeModel", "taped", "I", false)
  | 28 => ("TruthBridgeModel", "p", "I", false)
  | 29 => ("TruthBridgeModel", "fault", "I", false)
  | 30 => ("TruthBridgeModel", "slot", "I", false)
  | 31 => ("TruthBridgeModel", "rules", "I", false)
  | 32 => ("TruthBridgeModel", "sayings", "I", false)
  | 33 => ("TruthBridgeModel", "entries", "I", false)
  | 34 => ("TruthBridgeModel", "deep", "I", false)
  | 35 => ("TruthBridgeModel", "counted", "I", false)
  | 36 => ("TruthBridgeModel", "opened", "I", false)
  | 37 => ("TruthBridgeModel", "words", "I", false)
  | 38 => ("TruthBridgeModel", "tape", "[B", true)
  | 39 => ("TruthBridgeModel", "sort", "[I", true)
  | 40 => ("TruthBridgeModel", "number", "[I", true)
  | 41 => ("TruthBridgeModel", "clauses", "[I", true)
  | 42 => ("TruthBridgeModel", "sumAt", "[I", true)
  | 43 => ("TruthBridgeModel", "testAt", "[I", true)
  | 44 => ("TruthBridgeModel", "endAt", "[I", true)
  | 45 => ("TruthBridgeModel", "open", "[I", true)
  | 46 => ("TruthBridgeModel", "table", "[I", true)
  | 47 => ("TruthBridgeModel", "either", "[I", true)
  | 48 => ("TruthBridgeModel", "both", "[I", true)
  | 49 => ("TruthBridgeModel", "operand", "[I", true)
  | 50 => ("TruthBridgeModel", "opens", "[I", true)
  | 51 => ("TruthBridgeModel", "openMany", "I", false)
  | 52 => ("TruthBridgeModel", "level", "I", false)
  | 53 => ("TruthBridgeModel", "letters", "I", false)
  | 54 => ("TruthBridgeModel", "asked", "[J", true)
  | 55 => ("TruthBridgeModel", "stack", "[J", true)
  | 56 => ("TruthBridgeModel", "far", "[I", true)
  | 57 => ("TruthBridgeModel", "past", "[I", true)
  | 58 => ("TruthBridgeModel", "ring", "[I", true)
  | 59 => ("TruthBridgeModel", "pastMany", "I", false)
  | 60 => ("TruthBridgeModel", "pastAt", "I", false)
  | 61 => ("TruthBridgeModel", "takesBack", "Z", false)
  | 62 => ("TruthBridgeModel", "turnedRow", "[I", true)
  | 63 => ("TruthBridgeModel", "there", "[I", true)
  | 64 => ("TruthBridgeModel", "turn", "[I", true)
  | 65 => ("TruthBridgeModel", "bestTurn", "[I", true)
  | 66 => ("TruthBridgeModel", "bridgeAt", "[I", true)
  | 67 => ("TruthBridgeModel", "thereMany", "I", false)
  | 68 => ("TruthBridgeModel", "planned", "I", false)
  | 69 => ("TruthBridgeModel", "hours", "[I", true)
  | 70 => ("TruthBridgeModel", "following", "[I", true)
  | 71 => ("TruthBridgeModel", "drawnOver", "I", false)
  | 72 => ("TruthBridgeModel", "drawnFell", "I", false)
  | 73 => ("TruthBridgeModel", "images", "[I", true)
  | 74 => ("TruthBridgeModel", "isMade", "[Z", true)
  | 75 => ("TruthBridgeModel", "imageAt", "I", false)
  | _ => ("TruthBridgeModel", "goesBack", "Z", false)
def tyX12 : Nat → FieldType := fun k => match k with
  | 0 => .int
  | 1 => .array .int
  | 2 => .array .int
  | 3 => .array .int
  | 4 => .array .int
  | 5 => .array .int
  | 6 => .array .int
  | 7 => .array .int
  | 8 => .array .int
  | 9 => .array .int
  | 10 => .array .int
  | 11 => .array .int
  | 12 => .array .int
  | 13 => .array .int
  | 14 => .array .int
  | 15 => .array .int
  | 16 => .array .int
  | 17 => .array .int
  | 18 => .array .int
  | 19 => .array .int
  | 20 => .array .int
  | 21 => .array .int
  | 22 => .array .int
  | 23 => .array .int
  | 24 => .array .int
  | 25 => .array .int
  | 26 => .array .int
  | 27 => .int
  | 28 => .int
  | 29 => .int
  | 30 => .int
  | 31 => .int
  | 32 => .int
  | 33 => .int
  | 34 => .int
  | 35 => .int
  | 36 => .int
  | 37 => .int
  | 38 => .array .byte
  | 39 => .array .int
  | 40 => .array .int
  | 41 => .array .int
  | 42 => .array .int
  | 43 => .array .int
  | 44 => .array .int
  | 45 => .array .int
  | 46 => .array .int
  | 47 => .array .int
  | 48 => .array .int
  | 49 => .array .int
  | 50 => .array .int
  | 51 => .int
  | 52 => .int
  | 53 => .int
  | 54 => .array .long
  | 55 => .array .long
  | 56 => .array .int
  | 57 => .array .int
  | 58 => .array .int
  | 59 => .int
  | 60 => .int
  | 61 => .boolean
  | 62 => .array .int
  | 63 => .array .int
  | 64 => .array .int
  | 65 => .array .int
  | 66 => .array .int
  | 67 => .int
  | 68 => .int
  | 69 => .array .int
  | 70 => .array .int
  | 71 => .int
  | 72 => .int
  | 73 => .array .int
  | 74 => .array .boolean
  | 75 => .int
  | _ => .boolean
abbrev wsX120 : List Cond := u_ws RX12 TX12 77
theorem nmX12 : ∀ a, a < 77 → ∀ b, b < 77 → a ≠ b → (TX12 a).2.1 ≠ (TX12 b).2.1 := by decide +kernel
theorem tyX12_ok : ∀ k, k < 77 → parseFieldDescriptor (TX12 k).2.2.1 = some (tyX12 k) := by decide +kernel
