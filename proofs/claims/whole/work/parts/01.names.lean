-- ===== PART A: goes FIRST, ahead of the names: the tables' words, and 'selects' of the private methods out of them =====
/-- a private method of a class that the tables say can be made, by its rows of tables_1 -/
def lw_okq (q : MethodName × Nat) : Prop := (q.1.cls ≠ "java/lang/invoke/MethodHandle" ∧ q.1.cls ≠ "java/lang/invoke/VarHandle") ∧ Cond.instantiable q.1.cls q.2 ∈ tables_1 ∧ Cond.privateMethod q.1 ∈ tables_1 ∧ Cond.instanceMethod q.1 ∈ tables_1
theorem lw_p0 : lw_okq (⟨"PennyBooks", "noFamilyWeek", "(II)Z"⟩, 14) := ⟨⟨by decide +kernel, by decide +kernel⟩, List.mem_of_getElem? (i := 25) (by decide +kernel), List.mem_of_getElem? (i := 618) (by decide +kernel), List.mem_of_getElem? (i := 619) (by decide +kernel)⟩
theorem lw_p1 : lw_okq (⟨"PennyBooks$Reader", "appendFour", "(I)V"⟩, 19) := ⟨⟨by decide +kernel, by decide +kernel⟩, List.mem_of_getElem? (i := 153) (by decide +kernel), List.mem_of_getElem? (i := 681) (by decide +kernel), List.mem_of_getElem? (i := 682) (by decide +kernel)⟩
theorem lw_p2 : lw_okq (⟨"PennyBooks$Reader", "nextToken", "()V"⟩, 19) := ⟨⟨by decide +kernel, by decide +kernel⟩, List.mem_of_getElem? (i := 153) (by decide +kernel), List.mem_of_getElem? (i := 696) (by decide +kernel), List.mem_of_getElem? (i := 697) (by decide +kernel)⟩
theorem lw_p3 : lw_okq (⟨"PennyBooks$Reader", "nextWord", "()V"⟩, 19) := ⟨⟨by decide +kernel, by decide +kernel⟩, List.mem_of_getElem? (i := 153) (by decide +kernel), List.mem_of_getElem? (i := 703) (by decide +kernel), List.mem_of_getElem? (i := 704) (by decide +kernel)⟩
theorem lw_p4 : lw_okq (⟨"PennyBooks$Reader", "isLongWord", "()Z"⟩, 19) := ⟨⟨by decide +kernel, by decide +kernel⟩, List.mem_of_getElem? (i := 153) (by decide +kernel), List.mem_of_getElem? (i := 709) (by decide +kernel), List.mem_of_getElem? (i := 710) (by decide +kernel)⟩
theorem lw_p5 : lw_okq (⟨"PennyBooks$Reader", "nextNumber", "()V"⟩, 19) := ⟨⟨by decide +kernel, by decide +kernel⟩, List.mem_of_getElem? (i := 153) (by decide +kernel), List.mem_of_getElem? (i := 716) (by decide +kernel), List.mem_of_getElem? (i := 717) (by decide +kernel)⟩
theorem lw_p6 : lw_okq (⟨"PennyBooks$Reader", "takeToken", "()V"⟩, 19) := ⟨⟨by decide +kernel, by decide +kernel⟩, List.mem_of_getElem? (i := 153) (by decide +kernel), List.mem_of_getElem? (i := 807) (by decide +kernel), List.mem_of_getElem? (i := 808) (by decide +kernel)⟩
theorem lw_p7 : lw_okq (⟨"PennyBooks$Reader", "refuse", "(I)V"⟩, 19) := ⟨⟨by decide +kernel, by decide +kernel⟩, List.mem_of_getElem? (i := 153) (by decide +kernel), List.mem_of_getElem? (i := 811) (by decide +kernel), List.mem_of_getElem? (i := 812) (by decide +kernel)⟩
theorem lw_p8 : lw_okq (⟨"PennyBooks$Reader", "takeAtRule", "()V"⟩, 19) := ⟨⟨by decide +kernel, by decide +kernel⟩, List.mem_of_getElem? (i := 153) (by decide +kernel), List.mem_of_getElem? (i := 815) (by decide +kernel), List.mem_of_getElem? (i := 816) (by decide +kernel)⟩
theorem lw_p9 : lw_okq (⟨"PennyBooks$Reader", "takeAtOne", "()V"⟩, 19) := ⟨⟨by decide +kernel, by decide +kernel⟩, List.mem_of_getElem? (i := 153) (by decide +kernel), List.mem_of_getElem? (i := 819) (by decide +kernel), List.mem_of_getElem? (i := 820) (by decide +kernel)⟩
theorem lw_p10 : lw_okq (⟨"PennyBooks$Reader", "hold", "(I)V"⟩, 19) := ⟨⟨by decide +kernel, by decide +kernel⟩, List.mem_of_getElem? (i := 153) (by decide +kernel), List.mem_of_getElem? (i := 823) (by decide +kernel), List.mem_of_getElem? (i := 824) (by decide +kernel)⟩
theorem lw_p11 : lw_okq (⟨"PennyBooks$Reader", "emit", "(IJ)V"⟩, 19) := ⟨⟨by decide +kernel, by decide +kernel⟩, List.mem_of_getElem? (i := 153) (by decide +kernel), List.mem_of_getElem? (i := 827) (by decide +kernel), List.mem_of_getElem? (i := 828) (by decide +kernel)⟩
theorem lw_p12 : lw_okq (⟨"PennyBooks$Reader", "openSum", "(I)V"⟩, 19) := ⟨⟨by decide +kernel, by decide +kernel⟩, List.mem_of_getElem? (i := 153) (by decide +kernel), List.mem_of_getElem? (i := 831) (by decide +kernel), List.mem_of_getElem? (i := 832) (by decide +kernel)⟩
theorem lw_p13 : lw_okq (⟨"PennyBooks$Reader", "takeAtom", "()V"⟩, 19) := ⟨⟨by decide +kernel, by decide +kernel⟩, List.mem_of_getElem? (i := 153) (by decide +kernel), List.mem_of_getElem? (i := 835) (by decide +kernel), List.mem_of_getElem? (i := 836) (by decide +kernel)⟩
theorem lw_p14 : lw_okq (⟨"PennyBooks$Reader", "atomStep", "()I"⟩, 19) := ⟨⟨by decide +kernel, by decide +kernel⟩, List.mem_of_getElem? (i := 153) (by decide +kernel), List.mem_of_getElem? (i := 839) (by decide +kernel), List.mem_of_getElem? (i := 840) (by decide +kernel)⟩
theorem lw_p15 : lw_okq (⟨"PennyBooks$Reader", "takeName", "()V"⟩, 19) := ⟨⟨by decide +kernel, by decide +kernel⟩, List.mem_of_getElem? (i := 153) (by decide +kernel), List.mem_of_getElem? (i := 843) (by decide +kernel), List.mem_of_getElem? (i := 844) (by decide +kernel)⟩
def lw_privs_1 : List (MethodName × Nat) := [(⟨"PennyBooks", "noFamilyWeek", "(II)Z"⟩, 14), (⟨"PennyBooks$Reader", "appendFour", "(I)V"⟩, 19), (⟨"PennyBooks$Reader", "nextToken", "()V"⟩, 19), (⟨"PennyBooks$Reader", "nextWord", "()V"⟩, 19), (⟨"PennyBooks$Reader", "isLongWord", "()Z"⟩, 19), (⟨"PennyBooks$Reader", "nextNumber", "()V"⟩, 19), (⟨"PennyBooks$Reader", "takeToken", "()V"⟩, 19), (⟨"PennyBooks$Reader", "refuse", "(I)V"⟩, 19), (⟨"PennyBooks$Reader", "takeAtRule", "()V"⟩, 19), (⟨"PennyBooks$Reader", "takeAtOne", "()V"⟩, 19), (⟨"PennyBooks$Reader", "hold", "(I)V"⟩, 19), (⟨"PennyBooks$Reader", "emit", "(IJ)V"⟩, 19), (⟨"PennyBooks$Reader", "openSum", "(I)V"⟩, 19), (⟨"PennyBooks$Reader", "takeAtom", "()V"⟩, 19), (⟨"PennyBooks$Reader", "atomStep", "()I"⟩, 19), (⟨"PennyBooks$Reader", "takeName", "()V"⟩, 19)]
theorem lw_r1 : ∀ q ∈ lw_privs_1, lw_okq q := List.forall_mem_cons.mpr ⟨lw_p0, List.forall_mem_cons.mpr ⟨lw_p1, List.forall_mem_cons.mpr ⟨lw_p2, List.forall_mem_cons.mpr ⟨lw_p3, List.forall_mem_cons.mpr ⟨lw_p4, List.forall_mem_cons.mpr ⟨lw_p5, List.forall_mem_cons.mpr ⟨lw_p6, List.forall_mem_cons.mpr ⟨lw_p7, List.forall_mem_cons.mpr ⟨lw_p8, List.forall_mem_cons.mpr ⟨lw_p9, List.forall_mem_cons.mpr ⟨lw_p10, List.forall_mem_cons.mpr ⟨lw_p11, List.forall_mem_cons.mpr ⟨lw_p12, List.forall_mem_cons.mpr ⟨lw_p13, List.forall_mem_cons.mpr ⟨lw_p14, List.forall_mem_cons.mpr ⟨lw_p15, fun _ h => absurd h List.not_mem_nil⟩⟩⟩⟩⟩⟩⟩⟩⟩⟩⟩⟩⟩⟩⟩⟩
theorem lw_p16 : lw_okq (⟨"PennyBooks$Reader", "takeBehindOne", "()V"⟩, 19) := ⟨⟨by decide +kernel, by decide +kernel⟩, List.mem_of_getElem? (i := 153) (by decide +kernel), List.mem_of_getElem? (i := 847) (by decide +kernel), List.mem_of_getElem? (i := 848) (by decide +kernel)⟩
theorem lw_p17 : lw_okq (⟨"PennyBooks$Reader", "release", "(I)V"⟩, 19) := ⟨⟨by decide +kernel, by decide +kernel⟩, List.mem_of_getElem? (i := 153) (by decide +kernel), List.mem_of_getElem? (i := 854) (by decide +kernel), List.mem_of_getElem? (i := 855) (by decide +kernel)⟩
theorem lw_p18 : lw_okq (⟨"PennyBooks$Reader", "takeBehindThen", "()V"⟩, 19) := ⟨⟨by decide +kernel, by decide +kernel⟩, List.mem_of_getElem? (i := 153) (by decide +kernel), List.mem_of_getElem? (i := 858) (by decide +kernel), List.mem_of_getElem? (i := 859) (by decide +kernel)⟩
theorem lw_p19 : lw_okq (⟨"PennyBooks$Reader", "takeBehindAtom", "()V"⟩, 19) := ⟨⟨by decide +kernel, by decide +kernel⟩, List.mem_of_getElem? (i := 153) (by decide +kernel), List.mem_of_getElem? (i := 862) (by decide +kernel), List.mem_of_getElem? (i := 863) (by decide +kernel)⟩
theorem lw_p20 : lw_okq (⟨"PennyBooks$Reader", "operatorStep", "()I"⟩, 19) := ⟨⟨by decide +kernel, by decide +kernel⟩, List.mem_of_getElem? (i := 153) (by decide +kernel), List.mem_of_getElem? (i := 866) (by decide +kernel), List.mem_of_getElem? (i := 867) (by decide +kernel)⟩
theorem lw_p21 : lw_okq (⟨"PennyBooks$Reader", "closeBracket", "()V"⟩, 19) := ⟨⟨by decide +kernel, by decide +kernel⟩, List.mem_of_getElem? (i := 153) (by decide +kernel), List.mem_of_getElem? (i := 870) (by decide +kernel), List.mem_of_getElem? (i := 871) (by decide +kernel)⟩
theorem lw_p22 : lw_okq (⟨"PennyBooks$Reader", "takeComparison", "()V"⟩, 19) := ⟨⟨by decide +kernel, by decide +kernel⟩, List.mem_of_getElem? (i := 153) (by decide +kernel), List.mem_of_getElem? (i := 875) (by decide +kernel), List.mem_of_getElem? (i := 876) (by decide +kernel)⟩
theorem lw_p23 : lw_okq (⟨"PennyBooks$Reader", "comparisonStep", "()I"⟩, 19) := ⟨⟨by decide +kernel, by decide +kernel⟩, List.mem_of_getElem? (i := 153) (by decide +kernel), List.mem_of_getElem? (i := 879) (by decide +kernel), List.mem_of_getElem? (i := 880) (by decide +kernel)⟩
theorem lw_p24 : lw_okq (⟨"PennyBooks$Reader", "takeBehindResult", "()V"⟩, 19) := ⟨⟨by decide +kernel, by decide +kernel⟩, List.mem_of_getElem? (i := 153) (by decide +kernel), List.mem_of_getElem? (i := 883) (by decide +kernel), List.mem_of_getElem? (i := 884) (by decide +kernel)⟩
theorem lw_p25 : lw_okq (⟨"PennyBooks$Reader", "endRule", "()V"⟩, 19) := ⟨⟨by decide +kernel, by decide +kernel⟩, List.mem_of_getElem? (i := 153) (by decide +kernel), List.mem_of_getElem? (i := 887) (by decide +kernel), List.mem_of_getElem? (i := 888) (by decide +kernel)⟩
theorem lw_p26 : lw_okq (⟨"PennyBooks$Judge", "judgeAnew", "(II)I"⟩, 8) := ⟨⟨by decide +kernel, by decide +kernel⟩, List.mem_of_getElem? (i := 221) (by decide +kernel), List.mem_of_getElem? (i := 915) (by decide +kernel), List.mem_of_getElem? (i := 916) (by decide +kernel)⟩
theorem lw_p27 : lw_okq (⟨"PennyBooks$Judge", "pop", "()J"⟩, 8) := ⟨⟨by decide +kernel, by decide +kernel⟩, List.mem_of_getElem? (i := 221) (by decide +kernel), List.mem_of_getElem? (i := 920) (by decide +kernel), List.mem_of_getElem? (i := 921) (by decide +kernel)⟩
theorem lw_p28 : lw_okq (⟨"PennyBooks$Judge", "take", "(IJI)V"⟩, 8) := ⟨⟨by decide +kernel, by decide +kernel⟩, List.mem_of_getElem? (i := 221) (by decide +kernel), List.mem_of_getElem? (i := 936) (by decide +kernel), List.mem_of_getElem? (i := 937) (by decide +kernel)⟩
theorem lw_p29 : lw_okq (⟨"PennyBooks$Judge", "push", "(J)V"⟩, 8) := ⟨⟨by decide +kernel, by decide +kernel⟩, List.mem_of_getElem? (i := 221) (by decide +kernel), List.mem_of_getElem? (i := 940) (by decide +kernel), List.mem_of_getElem? (i := 941) (by decide +kernel)⟩
theorem lw_p30 : lw_okq (⟨"PennyBooks", "noSpending", "(IIII)Z"⟩, 14) := ⟨⟨by decide +kernel, by decide +kernel⟩, List.mem_of_getElem? (i := 25) (by decide +kernel), List.mem_of_getElem? (i := 978) (by decide +kernel), List.mem_of_getElem? (i := 979) (by decide +kernel)⟩
theorem lw_p31 : lw_okq (⟨"PennyBooks$Sums", "find", "(II)I"⟩, 13) := ⟨⟨by decide +kernel, by decide +kernel⟩, List.mem_of_getElem? (i := 253) (by decide +kernel), List.mem_of_getElem? (i := 1011) (by decide +kernel), List.mem_of_getElem? (i := 1012) (by decide +kernel)⟩
def lw_privs_2 : List (MethodName × Nat) := [(⟨"PennyBooks$Reader", "takeBehindOne", "()V"⟩, 19), (⟨"PennyBooks$Reader", "release", "(I)V"⟩, 19), (⟨"PennyBooks$Reader", "takeBehindThen", "()V"⟩, 19), (⟨"PennyBooks$Reader", "takeBehindAtom", "()V"⟩, 19), (⟨"PennyBooks$Reader", "operatorStep", "()I"⟩, 19), (⟨"PennyBooks$Reader", "closeBracket", "()V"⟩, 19), (⟨"PennyBooks$Reader", "takeComparison", "()V"⟩, 19), (⟨"PennyBooks$Reader", "comparisonStep", "()I"⟩, 19), (⟨"PennyBooks$Reader", "takeBehindResult", "()V"⟩, 19), (⟨"PennyBooks$Reader", "endRule", "()V"⟩, 19), (⟨"PennyBooks$Judge", "judgeAnew", "(II)I"⟩, 8), (⟨"PennyBooks$Judge", "pop", "()J"⟩, 8), (⟨"PennyBooks$Judge", "take", "(IJI)V"⟩, 8), (⟨"PennyBooks$Judge", "push", "(J)V"⟩, 8), (⟨"PennyBooks", "noSpending", "(IIII)Z"⟩, 14), (⟨"PennyBooks$Sums", "find", "(II)I"⟩, 13)]
theorem lw_r2 : ∀ q ∈ lw_privs_2, lw_okq q := List.forall_mem_cons.mpr ⟨lw_p16, List.forall_mem_cons.mpr ⟨lw_p17, List.forall_mem_cons.mpr ⟨lw_p18, List.forall_mem_cons.mpr ⟨lw_p19, List.forall_mem_cons.mpr ⟨lw_p20, List.forall_mem_cons.mpr ⟨lw_p21, List.forall_mem_cons.mpr ⟨lw_p22, List.forall_mem_cons.mpr ⟨lw_p23, List.forall_mem_cons.mpr ⟨lw_p24, List.forall_mem_cons.mpr ⟨lw_p25, List.forall_mem_cons.mpr ⟨lw_p26, List.forall_mem_cons.mpr ⟨lw_p27, List.forall_mem_cons.mpr ⟨lw_p28, List.forall_mem_cons.mpr ⟨lw_p29, List.forall_mem_cons.mpr ⟨lw_p30, List.forall_mem_cons.mpr ⟨lw_p31, fun _ h => absurd h List.not_mem_nil⟩⟩⟩⟩⟩⟩⟩⟩⟩⟩⟩⟩⟩⟩⟩⟩
theorem lw_p32 : lw_okq (⟨"PennyBooks$Sums", "gather", "(II)Z"⟩, 13) := ⟨⟨by decide +kernel, by decide +kernel⟩, List.mem_of_getElem? (i := 253) (by decide +kernel), List.mem_of_getElem? (i := 1041) (by decide +kernel), List.mem_of_getElem? (i := 1042) (by decide +kernel)⟩
theorem lw_p33 : lw_okq (⟨"PennyBooks$Sums", "listSlips", "(II)V"⟩, 13) := ⟨⟨by decide +kernel, by decide +kernel⟩, List.mem_of_getElem? (i := 253) (by decide +kernel), List.mem_of_getElem? (i := 1046) (by decide +kernel), List.mem_of_getElem? (i := 1047) (by decide +kernel)⟩
theorem lw_p34 : lw_okq (⟨"PennyBooks$Sums", "tryFrom", "(III)V"⟩, 13) := ⟨⟨by decide +kernel, by decide +kernel⟩, List.mem_of_getElem? (i := 253) (by decide +kernel), List.mem_of_getElem? (i := 1051) (by decide +kernel), List.mem_of_getElem? (i := 1052) (by decide +kernel)⟩
theorem lw_p35 : lw_okq (⟨"PennyBooks$Sums", "tryCarry", "(II)V"⟩, 13) := ⟨⟨by decide +kernel, by decide +kernel⟩, List.mem_of_getElem? (i := 253) (by decide +kernel), List.mem_of_getElem? (i := 1055) (by decide +kernel), List.mem_of_getElem? (i := 1056) (by decide +kernel)⟩
theorem lw_p36 : lw_okq (⟨"PennyBooks$Sums", "found", "(I)V"⟩, 13) := ⟨⟨by decide +kernel, by decide +kernel⟩, List.mem_of_getElem? (i := 253) (by decide +kernel), List.mem_of_getElem? (i := 1059) (by decide +kernel), List.mem_of_getElem? (i := 1060) (by decide +kernel)⟩
theorem lw_p37 : lw_okq (⟨"PennyBooks", "sundriesStatus", "(II)I"⟩, 14) := ⟨⟨by decide +kernel, by decide +kernel⟩, List.mem_of_getElem? (i := 25) (by decide +kernel), List.mem_of_getElem? (i := 1086) (by decide +kernel), List.mem_of_getElem? (i := 1087) (by decide +kernel)⟩
theorem lw_p38 : lw_okq (⟨"PennyBooks$Sundries", "gatherThings", "(II)V"⟩, 10) := ⟨⟨by decide +kernel, by decide +kernel⟩, List.mem_of_getElem? (i := 302) (by decide +kernel), List.mem_of_getElem? (i := 1100) (by decide +kernel), List.mem_of_getElem? (i := 1101) (by decide +kernel)⟩
theorem lw_p39 : lw_okq (⟨"PennyBooks$Sundries", "addThing", "(III)V"⟩, 10) := ⟨⟨by decide +kernel, by decide +kernel⟩, List.mem_of_getElem? (i := 302) (by decide +kernel), List.mem_of_getElem? (i := 1114) (by decide +kernel), List.mem_of_getElem? (i := 1115) (by decide +kernel)⟩
theorem lw_p40 : lw_okq (⟨"PennyBooks$Sundries", "isNearer", "(III)Z"⟩, 10) := ⟨⟨by decide +kernel, by decide +kernel⟩, List.mem_of_getElem? (i := 302) (by decide +kernel), List.mem_of_getElem? (i := 1121) (by decide +kernel), List.mem_of_getElem? (i := 1122) (by decide +kernel)⟩
theorem lw_p41 : lw_okq (⟨"PennyBooks$Sundries", "countWays", "(II)V"⟩, 10) := ⟨⟨by decide +kernel, by decide +kernel⟩, List.mem_of_getElem? (i := 302) (by decide +kernel), List.mem_of_getElem? (i := 1125) (by decide +kernel), List.mem_of_getElem? (i := 1126) (by decide +kernel)⟩
theorem lw_p42 : lw_okq (⟨"PennyBooks$Sundries", "addAnyNumber", "(II)V"⟩, 10) := ⟨⟨by decide +kernel, by decide +kernel⟩, List.mem_of_getElem? (i := 302) (by decide +kernel), List.mem_of_getElem? (i := 1132) (by decide +kernel), List.mem_of_getElem? (i := 1133) (by decide +kernel)⟩
theorem lw_p43 : lw_okq (⟨"PennyBooks$Sundries", "takeThoseAbove", "(II)V"⟩, 10) := ⟨⟨by decide +kernel, by decide +kernel⟩, List.mem_of_getElem? (i := 302) (by decide +kernel), List.mem_of_getElem? (i := 1136) (by decide +kernel), List.mem_of_getElem? (i := 1137) (by decide +kernel)⟩
theorem lw_p44 : lw_okq (⟨"PennyBooks", "tellFraction", "(JJ)I"⟩, 14) := ⟨⟨by decide +kernel, by decide +kernel⟩, List.mem_of_getElem? (i := 25) (by decide +kernel), List.mem_of_getElem? (i := 1179) (by decide +kernel), List.mem_of_getElem? (i := 1180) (by decide +kernel)⟩
theorem lw_p45 : lw_okq (⟨"PennyBooks$Prices", "insert", "(II)V"⟩, 6) := ⟨⟨by decide +kernel, by decide +kernel⟩, List.mem_of_getElem? (i := 368) (by decide +kernel), List.mem_of_getElem? (i := 1201) (by decide +kernel), List.mem_of_getElem? (i := 1202) (by decide +kernel)⟩
theorem lw_p46 : lw_okq (⟨"PennyBooks$Weeks", "unlikeAt", "(II)I"⟩, 7) := ⟨⟨by decide +kernel, by decide +kernel⟩, List.mem_of_getElem? (i := 396) (by decide +kernel), List.mem_of_getElem? (i := 1232) (by decide +kernel), List.mem_of_getElem? (i := 1233) (by decide +kernel)⟩
theorem lw_p47 : lw_okq (⟨"PennyBooks$Weights", "cellOf", "(I)I"⟩, 5) := ⟨⟨by decide +kernel, by decide +kernel⟩, List.mem_of_getElem? (i := 426) (by decide +kernel), List.mem_of_getElem? (i := 1252) (by decide +kernel), List.mem_of_getElem? (i := 1253) (by decide +kernel)⟩
def lw_privs_3 : List (MethodName × Nat) := [(⟨"PennyBooks$Sums", "gather", "(II)Z"⟩, 13), (⟨"PennyBooks$Sums", "listSlips", "(II)V"⟩, 13), (⟨"PennyBooks$Sums", "tryFrom", "(III)V"⟩, 13), (⟨"PennyBooks$Sums", "tryCarry", "(II)V"⟩, 13), (⟨"PennyBooks$Sums", "found", "(I)V"⟩, 13), (⟨"PennyBooks", "sundriesStatus", "(II)I"⟩, 14), (⟨"PennyBooks$Sundries", "gatherThings", "(II)V"⟩, 10), (⟨"PennyBooks$Sundries", "addThing", "(III)V"⟩, 10), (⟨"PennyBooks$Sundries", "isNearer", "(III)Z"⟩, 10), (⟨"PennyBooks$Sundries", "countWays", "(II)V"⟩, 10), (⟨"PennyBooks$Sundries", "addAnyNumber", "(II)V"⟩, 10), (⟨"PennyBooks$Sundries", "takeThoseAbove", "(II)V"⟩, 10), (⟨"PennyBooks", "tellFraction", "(JJ)I"⟩, 14), (⟨"PennyBooks$Prices", "insert", "(II)V"⟩, 6), (⟨"PennyBooks$Weeks", "unlikeAt", "(II)I"⟩, 7), (⟨"PennyBooks$Weights", "cellOf", "(I)I"⟩, 5)]
theorem lw_r3 : ∀ q ∈ lw_privs_3, lw_okq q := List.forall_mem_cons.mpr ⟨lw_p32, List.forall_mem_cons.mpr ⟨lw_p33, List.forall_mem_cons.mpr ⟨lw_p34, List.forall_mem_cons.mpr ⟨lw_p35, List.forall_mem_cons.mpr ⟨lw_p36, List.forall_mem_cons.mpr ⟨lw_p37, List.forall_mem_cons.mpr ⟨lw_p38, List.forall_mem_cons.mpr ⟨lw_p39, List.forall_mem_cons.mpr ⟨lw_p40, List.forall_mem_cons.mpr ⟨lw_p41, List.forall_mem_cons.mpr ⟨lw_p42, List.forall_mem_cons.mpr ⟨lw_p43, List.forall_mem_cons.mpr ⟨lw_p44, List.forall_mem_cons.mpr ⟨lw_p45, List.forall_mem_cons.mpr ⟨lw_p46, List.forall_mem_cons.mpr ⟨lw_p47, fun _ h => absurd h List.not_mem_nil⟩⟩⟩⟩⟩⟩⟩⟩⟩⟩⟩⟩⟩⟩⟩⟩
theorem lw_p48 : lw_okq (⟨"PennyBooks$Weights", "leastUnlike", "()I"⟩, 5) := ⟨⟨by decide +kernel, by decide +kernel⟩, List.mem_of_getElem? (i := 426) (by decide +kernel), List.mem_of_getElem? (i := 1256) (by decide +kernel), List.mem_of_getElem? (i := 1257) (by decide +kernel)⟩
theorem lw_p49 : lw_okq (⟨"PennyBooks$Weights", "cutBehind", "(I)I"⟩, 5) := ⟨⟨by decide +kernel, by decide +kernel⟩, List.mem_of_getElem? (i := 426) (by decide +kernel), List.mem_of_getElem? (i := 1261) (by decide +kernel), List.mem_of_getElem? (i := 1262) (by decide +kernel)⟩
theorem lw_p50 : lw_okq (⟨"PennyBooks$Weeks", "layOut", "(I)V"⟩, 7) := ⟨⟨by decide +kernel, by decide +kernel⟩, List.mem_of_getElem? (i := 396) (by decide +kernel), List.mem_of_getElem? (i := 1279) (by decide +kernel), List.mem_of_getElem? (i := 1280) (by decide +kernel)⟩
theorem lw_p51 : lw_okq (⟨"PennyBooks$Losses", "isLike", "(III)Z"⟩, 7) := ⟨⟨by decide +kernel, by decide +kernel⟩, List.mem_of_getElem? (i := 450) (by decide +kernel), List.mem_of_getElem? (i := 1314) (by decide +kernel), List.mem_of_getElem? (i := 1315) (by decide +kernel)⟩
theorem lw_p52 : lw_okq (⟨"PennyBooks$Losses", "wentInEach", "(III)Z"⟩, 7) := ⟨⟨by decide +kernel, by decide +kernel⟩, List.mem_of_getElem? (i := 450) (by decide +kernel), List.mem_of_getElem? (i := 1318) (by decide +kernel), List.mem_of_getElem? (i := 1319) (by decide +kernel)⟩
theorem lw_p53 : lw_okq (⟨"PennyBooks$Losses", "lostNear", "(III)Z"⟩, 7) := ⟨⟨by decide +kernel, by decide +kernel⟩, List.mem_of_getElem? (i := 450) (by decide +kernel), List.mem_of_getElem? (i := 1329) (by decide +kernel), List.mem_of_getElem? (i := 1330) (by decide +kernel)⟩
theorem lw_p54 : lw_okq (⟨"PennyBooks$Losses", "turn", "(IIIII)J"⟩, 7) := ⟨⟨by decide +kernel, by decide +kernel⟩, List.mem_of_getElem? (i := 450) (by decide +kernel), List.mem_of_getElem? (i := 1333) (by decide +kernel), List.mem_of_getElem? (i := 1334) (by decide +kernel)⟩
theorem lw_p55 : lw_okq (⟨"PennyBooksModel", "is", "(I)Z"⟩, 101) := ⟨⟨by decide +kernel, by decide +kernel⟩, List.mem_of_getElem? (i := 1346) (by decide +kernel), List.mem_of_getElem? (i := 1675) (by decide +kernel), List.mem_of_getElem? (i := 1676) (by decide +kernel)⟩
theorem lw_p56 : lw_okq (⟨"PennyBooksModel", "wrongPlace", "(II)I"⟩, 101) := ⟨⟨by decide +kernel, by decide +kernel⟩, List.mem_of_getElem? (i := 1346) (by decide +kernel), List.mem_of_getElem? (i := 1683) (by decide +kernel), List.mem_of_getElem? (i := 1684) (by decide +kernel)⟩
theorem lw_p57 : lw_okq (⟨"PennyBooksModel", "refuse", "(I)I"⟩, 101) := ⟨⟨by decide +kernel, by decide +kernel⟩, List.mem_of_getElem? (i := 1346) (by decide +kernel), List.mem_of_getElem? (i := 1706) (by decide +kernel), List.mem_of_getElem? (i := 1707) (by decide +kernel)⟩
theorem lw_p58 : lw_okq (⟨"PennyBooksModel", "gives", "(I)I"⟩, 101) := ⟨⟨by decide +kernel, by decide +kernel⟩, List.mem_of_getElem? (i := 1346) (by decide +kernel), List.mem_of_getElem? (i := 1710) (by decide +kernel), List.mem_of_getElem? (i := 1711) (by decide +kernel)⟩
theorem lw_p59 : lw_okq (⟨"PennyBooksModel", "isFamily", "(I)Z"⟩, 101) := ⟨⟨by decide +kernel, by decide +kernel⟩, List.mem_of_getElem? (i := 1346) (by decide +kernel), List.mem_of_getElem? (i := 1728) (by decide +kernel), List.mem_of_getElem? (i := 1729) (by decide +kernel)⟩
theorem lw_p60 : lw_okq (⟨"PennyBooksModel", "isLine", "(I)Z"⟩, 101) := ⟨⟨by decide +kernel, by decide +kernel⟩, List.mem_of_getElem? (i := 1346) (by decide +kernel), List.mem_of_getElem? (i := 1745) (by decide +kernel), List.mem_of_getElem? (i := 1746) (by decide +kernel)⟩
theorem lw_p61 : lw_okq (⟨"PennyBooksModel", "isKnown", "(I)Z"⟩, 101) := ⟨⟨by decide +kernel, by decide +kernel⟩, List.mem_of_getElem? (i := 1346) (by decide +kernel), List.mem_of_getElem? (i := 1757) (by decide +kernel), List.mem_of_getElem? (i := 1758) (by decide +kernel)⟩
theorem lw_p62 : lw_okq (⟨"PennyBooksModel", "penceOf", "(I)I"⟩, 101) := ⟨⟨by decide +kernel, by decide +kernel⟩, List.mem_of_getElem? (i := 1346) (by decide +kernel), List.mem_of_getElem? (i := 1761) (by decide +kernel), List.mem_of_getElem? (i := 1762) (by decide +kernel)⟩
theorem lw_p63 : lw_okq (⟨"PennyBooksModel", "four", "(I)V"⟩, 101) := ⟨⟨by decide +kernel, by decide +kernel⟩, List.mem_of_getElem? (i := 1346) (by decide +kernel), List.mem_of_getElem? (i := 1769) (by decide +kernel), List.mem_of_getElem? (i := 1770) (by decide +kernel)⟩
def lw_privs_4 : List (MethodName × Nat) := [(⟨"PennyBooks$Weights", "leastUnlike", "()I"⟩, 5), (⟨"PennyBooks$Weights", "cutBehind", "(I)I"⟩, 5), (⟨"PennyBooks$Weeks", "layOut", "(I)V"⟩, 7), (⟨"PennyBooks$Losses", "isLike", "(III)Z"⟩, 7), (⟨"PennyBooks$Losses", "wentInEach", "(III)Z"⟩, 7), (⟨"PennyBooks$Losses", "lostNear", "(III)Z"⟩, 7), (⟨"PennyBooks$Losses", "turn", "(IIIII)J"⟩, 7), (⟨"PennyBooksModel", "is", "(I)Z"⟩, 101), (⟨"PennyBooksModel", "wrongPlace", "(II)I"⟩, 101), (⟨"PennyBooksModel", "refuse", "(I)I"⟩, 101), (⟨"PennyBooksModel", "gives", "(I)I"⟩, 101), (⟨"PennyBooksModel", "isFamily", "(I)Z"⟩, 101), (⟨"PennyBooksModel", "isLine", "(I)Z"⟩, 101), (⟨"PennyBooksModel", "isKnown", "(I)Z"⟩, 101), (⟨"PennyBooksModel", "penceOf", "(I)I"⟩, 101), (⟨"PennyBooksModel", "four", "(I)V"⟩, 101)]
theorem lw_r4 : ∀ q ∈ lw_privs_4, lw_okq q := List.forall_mem_cons.mpr ⟨lw_p48, List.forall_mem_cons.mpr ⟨lw_p49, List.forall_mem_cons.mpr ⟨lw_p50, List.forall_mem_cons.mpr ⟨lw_p51, List.forall_mem_cons.mpr ⟨lw_p52, List.forall_mem_cons.mpr ⟨lw_p53, List.forall_mem_cons.mpr ⟨lw_p54, List.forall_mem_cons.mpr ⟨lw_p55, List.forall_mem_cons.mpr ⟨lw_p56, List.forall_mem_cons.mpr ⟨lw_p57, List.forall_mem_cons.mpr ⟨lw_p58, List.forall_mem_cons.mpr ⟨lw_p59, List.forall_mem_cons.mpr ⟨lw_p60, List.forall_mem_cons.mpr ⟨lw_p61, List.forall_mem_cons.mpr ⟨lw_p62, List.forall_mem_cons.mpr ⟨lw_p63, fun _ h => absurd h List.not_mem_nil⟩⟩⟩⟩⟩⟩⟩⟩⟩⟩⟩⟩⟩⟩⟩⟩
theorem lw_p64 : lw_okq (⟨"PennyBooksModel", "next", "()V"⟩, 101) := ⟨⟨by decide +kernel, by decide +kernel⟩, List.mem_of_getElem? (i := 1346) (by decide +kernel), List.mem_of_getElem? (i := 1777) (by decide +kernel), List.mem_of_getElem? (i := 1778) (by decide +kernel)⟩
theorem lw_p65 : lw_okq (⟨"PennyBooksModel", "at", "(I)I"⟩, 101) := ⟨⟨by decide +kernel, by decide +kernel⟩, List.mem_of_getElem? (i := 1346) (by decide +kernel), List.mem_of_getElem? (i := 1781) (by decide +kernel), List.mem_of_getElem? (i := 1782) (by decide +kernel)⟩
theorem lw_p66 : lw_okq (⟨"PennyBooksModel", "rule", "()Z"⟩, 101) := ⟨⟨by decide +kernel, by decide +kernel⟩, List.mem_of_getElem? (i := 1346) (by decide +kernel), List.mem_of_getElem? (i := 1793) (by decide +kernel), List.mem_of_getElem? (i := 1794) (by decide +kernel)⟩
theorem lw_p67 : lw_okq (⟨"PennyBooksModel", "isKey", "(I)Z"⟩, 101) := ⟨⟨by decide +kernel, by decide +kernel⟩, List.mem_of_getElem? (i := 1346) (by decide +kernel), List.mem_of_getElem? (i := 1797) (by decide +kernel), List.mem_of_getElem? (i := 1798) (by decide +kernel)⟩
theorem lw_p68 : lw_okq (⟨"PennyBooksModel", "inWords", "(Ljava/lang/String;)I"⟩, 101) := ⟨⟨by decide +kernel, by decide +kernel⟩, List.mem_of_getElem? (i := 1346) (by decide +kernel), List.mem_of_getElem? (i := 1802) (by decide +kernel), List.mem_of_getElem? (i := 1803) (by decide +kernel)⟩
theorem lw_p69 : lw_okq (⟨"PennyBooksModel", "fails", "(I)Z"⟩, 101) := ⟨⟨by decide +kernel, by decide +kernel⟩, List.mem_of_getElem? (i := 1346) (by decide +kernel), List.mem_of_getElem? (i := 1827) (by decide +kernel), List.mem_of_getElem? (i := 1828) (by decide +kernel)⟩
theorem lw_p70 : lw_okq (⟨"PennyBooksModel", "test", "()Z"⟩, 101) := ⟨⟨by decide +kernel, by decide +kernel⟩, List.mem_of_getElem? (i := 1346) (by decide +kernel), List.mem_of_getElem? (i := 1831) (by decide +kernel), List.mem_of_getElem? (i := 1832) (by decide +kernel)⟩
theorem lw_p71 : lw_okq (⟨"PennyBooksModel", "one", "(Z)Z"⟩, 101) := ⟨⟨by decide +kernel, by decide +kernel⟩, List.mem_of_getElem? (i := 1346) (by decide +kernel), List.mem_of_getElem? (i := 1835) (by decide +kernel), List.mem_of_getElem? (i := 1836) (by decide +kernel)⟩
theorem lw_p72 : lw_okq (⟨"PennyBooksModel", "name", "(I)Z"⟩, 101) := ⟨⟨by decide +kernel, by decide +kernel⟩, List.mem_of_getElem? (i := 1346) (by decide +kernel), List.mem_of_getElem? (i := 1839) (by decide +kernel), List.mem_of_getElem? (i := 1840) (by decide +kernel)⟩
theorem lw_p73 : lw_okq (⟨"PennyBooksModel", "wantKey", "(I)Z"⟩, 101) := ⟨⟨by decide +kernel, by decide +kernel⟩, List.mem_of_getElem? (i := 1346) (by decide +kernel), List.mem_of_getElem? (i := 1843) (by decide +kernel), List.mem_of_getElem? (i := 1844) (by decide +kernel)⟩
theorem lw_p74 : lw_okq (⟨"PennyBooksModel", "comparing", "(I)Z"⟩, 101) := ⟨⟨by decide +kernel, by decide +kernel⟩, List.mem_of_getElem? (i := 1346) (by decide +kernel), List.mem_of_getElem? (i := 1847) (by decide +kernel), List.mem_of_getElem? (i := 1848) (by decide +kernel)⟩
theorem lw_p75 : lw_okq (⟨"PennyBooksModel", "sum", "()Z"⟩, 101) := ⟨⟨by decide +kernel, by decide +kernel⟩, List.mem_of_getElem? (i := 1346) (by decide +kernel), List.mem_of_getElem? (i := 1851) (by decide +kernel), List.mem_of_getElem? (i := 1852) (by decide +kernel)⟩
theorem lw_p76 : lw_okq (⟨"PennyBooksModel", "puts", "(II)V"⟩, 101) := ⟨⟨by decide +kernel, by decide +kernel⟩, List.mem_of_getElem? (i := 1346) (by decide +kernel), List.mem_of_getElem? (i := 1856) (by decide +kernel), List.mem_of_getElem? (i := 1857) (by decide +kernel)⟩
theorem lw_p77 : lw_okq (⟨"PennyBooksModel", "isSign", "(I)Z"⟩, 101) := ⟨⟨by decide +kernel, by decide +kernel⟩, List.mem_of_getElem? (i := 1346) (by decide +kernel), List.mem_of_getElem? (i := 1860) (by decide +kernel), List.mem_of_getElem? (i := 1861) (by decide +kernel)⟩
theorem lw_p78 : lw_okq (⟨"PennyBooksModel", "isEdition", "(I)Z"⟩, 101) := ⟨⟨by decide +kernel, by decide +kernel⟩, List.mem_of_getElem? (i := 1346) (by decide +kernel), List.mem_of_getElem? (i := 1872) (by decide +kernel), List.mem_of_getElem? (i := 1873) (by decide +kernel)⟩
theorem lw_p79 : lw_okq (⟨"PennyBooksModel", "sortOut", "(II)V"⟩, 101) := ⟨⟨by decide +kernel, by decide +kernel⟩, List.mem_of_getElem? (i := 1346) (by decide +kernel), List.mem_of_getElem? (i := 1876) (by decide +kernel), List.mem_of_getElem? (i := 1877) (by decide +kernel)⟩
def lw_privs_5 : List (MethodName × Nat) := [(⟨"PennyBooksModel", "next", "()V"⟩, 101), (⟨"PennyBooksModel", "at", "(I)I"⟩, 101), (⟨"PennyBooksModel", "rule", "()Z"⟩, 101), (⟨"PennyBooksModel", "isKey", "(I)Z"⟩, 101), (⟨"PennyBooksModel", "inWords", "(Ljava/lang/String;)I"⟩, 101), (⟨"PennyBooksModel", "fails", "(I)Z"⟩, 101), (⟨"PennyBooksModel", "test", "()Z"⟩, 101), (⟨"PennyBooksModel", "one", "(Z)Z"⟩, 101), (⟨"PennyBooksModel", "name", "(I)Z"⟩, 101), (⟨"PennyBooksModel", "wantKey", "(I)Z"⟩, 101), (⟨"PennyBooksModel", "comparing", "(I)Z"⟩, 101), (⟨"PennyBooksModel", "sum", "()Z"⟩, 101), (⟨"PennyBooksModel", "puts", "(II)V"⟩, 101), (⟨"PennyBooksModel", "isSign", "(I)Z"⟩, 101), (⟨"PennyBooksModel", "isEdition", "(I)Z"⟩, 101), (⟨"PennyBooksModel", "sortOut", "(II)V"⟩, 101)]
theorem lw_r5 : ∀ q ∈ lw_privs_5, lw_okq q := List.forall_mem_cons.mpr ⟨lw_p64, List.forall_mem_cons.mpr ⟨lw_p65, List.forall_mem_cons.mpr ⟨lw_p66, List.forall_mem_cons.mpr ⟨lw_p67, List.forall_mem_cons.mpr ⟨lw_p68, List.forall_mem_cons.mpr ⟨lw_p69, List.forall_mem_cons.mpr ⟨lw_p70, List.forall_mem_cons.mpr ⟨lw_p71, List.forall_mem_cons.mpr ⟨lw_p72, List.forall_mem_cons.mpr ⟨lw_p73, List.forall_mem_cons.mpr ⟨lw_p74, List.forall_mem_cons.mpr ⟨lw_p75, List.forall_mem_cons.mpr ⟨lw_p76, List.forall_mem_cons.mpr ⟨lw_p77, List.forall_mem_cons.mpr ⟨lw_p78, List.forall_mem_cons.mpr ⟨lw_p79, fun _ h => absurd h List.not_mem_nil⟩⟩⟩⟩⟩⟩⟩⟩⟩⟩⟩⟩⟩⟩⟩⟩
theorem lw_p80 : lw_okq (⟨"PennyBooksModel", "holds", "(III)Z"⟩, 101) := ⟨⟨by decide +kernel, by decide +kernel⟩, List.mem_of_getElem? (i := 1346) (by decide +kernel), List.mem_of_getElem? (i := 1880) (by decide +kernel), List.mem_of_getElem? (i := 1881) (by decide +kernel)⟩
theorem lw_p81 : lw_okq (⟨"PennyBooksModel", "isOne", "(II)Z"⟩, 101) := ⟨⟨by decide +kernel, by decide +kernel⟩, List.mem_of_getElem? (i := 1346) (by decide +kernel), List.mem_of_getElem? (i := 1884) (by decide +kernel), List.mem_of_getElem? (i := 1885) (by decide +kernel)⟩
theorem lw_p82 : lw_okq (⟨"PennyBooksModel", "work", "(II)J"⟩, 101) := ⟨⟨by decide +kernel, by decide +kernel⟩, List.mem_of_getElem? (i := 1346) (by decide +kernel), List.mem_of_getElem? (i := 1888) (by decide +kernel), List.mem_of_getElem? (i := 1889) (by decide +kernel)⟩
theorem lw_p83 : lw_okq (⟨"PennyBooksModel", "kindOf", "(II)I"⟩, 101) := ⟨⟨by decide +kernel, by decide +kernel⟩, List.mem_of_getElem? (i := 1346) (by decide +kernel), List.mem_of_getElem? (i := 1900) (by decide +kernel), List.mem_of_getElem? (i := 1901) (by decide +kernel)⟩
theorem lw_p84 : lw_okq (⟨"PennyBooksModel", "spentOf", "(IIII)I"⟩, 101) := ⟨⟨by decide +kernel, by decide +kernel⟩, List.mem_of_getElem? (i := 1346) (by decide +kernel), List.mem_of_getElem? (i := 1911) (by decide +kernel), List.mem_of_getElem? (i := 1912) (by decide +kernel)⟩
theorem lw_p85 : lw_okq (⟨"PennyBooksModel", "went", "(II)Z"⟩, 101) := ⟨⟨by decide +kernel, by decide +kernel⟩, List.mem_of_getElem? (i := 1346) (by decide +kernel), List.mem_of_getElem? (i := 1915) (by decide +kernel), List.mem_of_getElem? (i := 1916) (by decide +kernel)⟩
theorem lw_p86 : lw_okq (⟨"PennyBooksModel", "toldOf", "(II)I"⟩, 101) := ⟨⟨by decide +kernel, by decide +kernel⟩, List.mem_of_getElem? (i := 1346) (by decide +kernel), List.mem_of_getElem? (i := 1923) (by decide +kernel), List.mem_of_getElem? (i := 1924) (by decide +kernel)⟩
theorem lw_p87 : lw_okq (⟨"PennyBooksModel", "explains", "(II)Z"⟩, 101) := ⟨⟨by decide +kernel, by decide +kernel⟩, List.mem_of_getElem? (i := 1346) (by decide +kernel), List.mem_of_getElem? (i := 1935) (by decide +kernel), List.mem_of_getElem? (i := 1936) (by decide +kernel)⟩
theorem lw_p88 : lw_okq (⟨"PennyBooksModel", "slipsOf", "(II)V"⟩, 101) := ⟨⟨by decide +kernel, by decide +kernel⟩, List.mem_of_getElem? (i := 1346) (by decide +kernel), List.mem_of_getElem? (i := 1939) (by decide +kernel), List.mem_of_getElem? (i := 1940) (by decide +kernel)⟩
theorem lw_p89 : lw_okq (⟨"PennyBooksModel", "look", "(II)V"⟩, 101) := ⟨⟨by decide +kernel, by decide +kernel⟩, List.mem_of_getElem? (i := 1346) (by decide +kernel), List.mem_of_getElem? (i := 1943) (by decide +kernel), List.mem_of_getElem? (i := 1944) (by decide +kernel)⟩
theorem lw_p90 : lw_okq (⟨"PennyBooksModel", "isEarlier", "(I)Z"⟩, 101) := ⟨⟨by decide +kernel, by decide +kernel⟩, List.mem_of_getElem? (i := 1346) (by decide +kernel), List.mem_of_getElem? (i := 1948) (by decide +kernel), List.mem_of_getElem? (i := 1949) (by decide +kernel)⟩
theorem lw_p91 : lw_okq (⟨"PennyBooksModel", "brings", "(II)I"⟩, 101) := ⟨⟨by decide +kernel, by decide +kernel⟩, List.mem_of_getElem? (i := 1346) (by decide +kernel), List.mem_of_getElem? (i := 1952) (by decide +kernel), List.mem_of_getElem? (i := 1953) (by decide +kernel)⟩
theorem lw_p92 : lw_okq (⟨"PennyBooksModel", "third", "(II)V"⟩, 101) := ⟨⟨by decide +kernel, by decide +kernel⟩, List.mem_of_getElem? (i := 1346) (by decide +kernel), List.mem_of_getElem? (i := 1956) (by decide +kernel), List.mem_of_getElem? (i := 1957) (by decide +kernel)⟩
theorem lw_p93 : lw_okq (⟨"PennyBooksModel", "wrongSundry", "(II)I"⟩, 101) := ⟨⟨by decide +kernel, by decide +kernel⟩, List.mem_of_getElem? (i := 1346) (by decide +kernel), List.mem_of_getElem? (i := 1972) (by decide +kernel), List.mem_of_getElem? (i := 1973) (by decide +kernel)⟩
theorem lw_p94 : lw_okq (⟨"PennyBooksModel", "things", "(II)V"⟩, 101) := ⟨⟨by decide +kernel, by decide +kernel⟩, List.mem_of_getElem? (i := 1346) (by decide +kernel), List.mem_of_getElem? (i := 1976) (by decide +kernel), List.mem_of_getElem? (i := 1977) (by decide +kernel)⟩
theorem lw_p95 : lw_okq (⟨"PennyBooksModel", "count", "(I)V"⟩, 101) := ⟨⟨by decide +kernel, by decide +kernel⟩, List.mem_of_getElem? (i := 1346) (by decide +kernel), List.mem_of_getElem? (i := 1981) (by decide +kernel), List.mem_of_getElem? (i := 1982) (by decide +kernel)⟩
def lw_privs_6 : List (MethodName × Nat) := [(⟨"PennyBooksModel", "holds", "(III)Z"⟩, 101), (⟨"PennyBooksModel", "isOne", "(II)Z"⟩, 101), (⟨"PennyBooksModel", "work", "(II)J"⟩, 101), (⟨"PennyBooksModel", "kindOf", "(II)I"⟩, 101), (⟨"PennyBooksModel", "spentOf", "(IIII)I"⟩, 101), (⟨"PennyBooksModel", "went", "(II)Z"⟩, 101), (⟨"PennyBooksModel", "toldOf", "(II)I"⟩, 101), (⟨"PennyBooksModel", "explains", "(II)Z"⟩, 101), (⟨"PennyBooksModel", "slipsOf", "(II)V"⟩, 101), (⟨"PennyBooksModel", "look", "(II)V"⟩, 101), (⟨"PennyBooksModel", "isEarlier", "(I)Z"⟩, 101), (⟨"PennyBooksModel", "brings", "(II)I"⟩, 101), (⟨"PennyBooksModel", "third", "(II)V"⟩, 101), (⟨"PennyBooksModel", "wrongSundry", "(II)I"⟩, 101), (⟨"PennyBooksModel", "things", "(II)V"⟩, 101), (⟨"PennyBooksModel", "count", "(I)V"⟩, 101)]
theorem lw_r6 : ∀ q ∈ lw_privs_6, lw_okq q := List.forall_mem_cons.mpr ⟨lw_p80, List.forall_mem_cons.mpr ⟨lw_p81, List.forall_mem_cons.mpr ⟨lw_p82, List.forall_mem_cons.mpr ⟨lw_p83, List.forall_mem_cons.mpr ⟨lw_p84, List.forall_mem_cons.mpr ⟨lw_p85, List.forall_mem_cons.mpr ⟨lw_p86, List.forall_mem_cons.mpr ⟨lw_p87, List.forall_mem_cons.mpr ⟨lw_p88, List.forall_mem_cons.mpr ⟨lw_p89, List.forall_mem_cons.mpr ⟨lw_p90, List.forall_mem_cons.mpr ⟨lw_p91, List.forall_mem_cons.mpr ⟨lw_p92, List.forall_mem_cons.mpr ⟨lw_p93, List.forall_mem_cons.mpr ⟨lw_p94, List.forall_mem_cons.mpr ⟨lw_p95, fun _ h => absurd h List.not_mem_nil⟩⟩⟩⟩⟩⟩⟩⟩⟩⟩⟩⟩⟩⟩⟩⟩
theorem lw_p96 : lw_okq (⟨"PennyBooksModel", "mouthsOf", "(II)I"⟩, 101) := ⟨⟨by decide +kernel, by decide +kernel⟩, List.mem_of_getElem? (i := 1346) (by decide +kernel), List.mem_of_getElem? (i := 2004) (by decide +kernel), List.mem_of_getElem? (i := 2005) (by decide +kernel)⟩
theorem lw_p97 : lw_okq (⟨"PennyBooksModel", "fraction", "(JJ)I"⟩, 101) := ⟨⟨by decide +kernel, by decide +kernel⟩, List.mem_of_getElem? (i := 1346) (by decide +kernel), List.mem_of_getElem? (i := 2013) (by decide +kernel), List.mem_of_getElem? (i := 2014) (by decide +kernel)⟩
theorem lw_p98 : lw_okq (⟨"PennyBooksModel", "unlike", "(III)I"⟩, 101) := ⟨⟨by decide +kernel, by decide +kernel⟩, List.mem_of_getElem? (i := 1346) (by decide +kernel), List.mem_of_getElem? (i := 2025) (by decide +kernel), List.mem_of_getElem? (i := 2026) (by decide +kernel)⟩
theorem lw_p99 : lw_okq (⟨"PennyBooksModel", "isGap", "(II)Z"⟩, 101) := ⟨⟨by decide +kernel, by decide +kernel⟩, List.mem_of_getElem? (i := 1346) (by decide +kernel), List.mem_of_getElem? (i := 2042) (by decide +kernel), List.mem_of_getElem? (i := 2043) (by decide +kernel)⟩
theorem lw_p100 : lw_okq (⟨"PennyBooksModel", "hasLine", "(II)Z"⟩, 101) := ⟨⟨by decide +kernel, by decide +kernel⟩, List.mem_of_getElem? (i := 1346) (by decide +kernel), List.mem_of_getElem? (i := 2046) (by decide +kernel), List.mem_of_getElem? (i := 2047) (by decide +kernel)⟩
theorem lw_p101 : lw_okq (⟨"PennyBooksModel", "edge", "(IZ)I"⟩, 101) := ⟨⟨by decide +kernel, by decide +kernel⟩, List.mem_of_getElem? (i := 1346) (by decide +kernel), List.mem_of_getElem? (i := 2050) (by decide +kernel), List.mem_of_getElem? (i := 2051) (by decide +kernel)⟩
theorem lw_p102 : lw_okq (⟨"PennyBooksModel", "areWeeks", "(II)Z"⟩, 101) := ⟨⟨by decide +kernel, by decide +kernel⟩, List.mem_of_getElem? (i := 1346) (by decide +kernel), List.mem_of_getElem? (i := 2066) (by decide +kernel), List.mem_of_getElem? (i := 2067) (by decide +kernel)⟩
theorem lw_p103 : lw_okq (⟨"PennyBooksModel", "hasAll", "(III)Z"⟩, 101) := ⟨⟨by decide +kernel, by decide +kernel⟩, List.mem_of_getElem? (i := 1346) (by decide +kernel), List.mem_of_getElem? (i := 2070) (by decide +kernel), List.mem_of_getElem? (i := 2071) (by decide +kernel)⟩
theorem lw_p104 : lw_okq (⟨"PennyBooksModel", "isLike", "(III)Z"⟩, 101) := ⟨⟨by decide +kernel, by decide +kernel⟩, List.mem_of_getElem? (i := 1346) (by decide +kernel), List.mem_of_getElem? (i := 2074) (by decide +kernel), List.mem_of_getElem? (i := 2075) (by decide +kernel)⟩
theorem lw_p105 : lw_okq (⟨"PennyBooksModel", "differs", "(IIIII)J"⟩, 101) := ⟨⟨by decide +kernel, by decide +kernel⟩, List.mem_of_getElem? (i := 1346) (by decide +kernel), List.mem_of_getElem? (i := 2078) (by decide +kernel), List.mem_of_getElem? (i := 2079) (by decide +kernel)⟩
def lw_privs_7 : List (MethodName × Nat) := [(⟨"PennyBooksModel", "mouthsOf", "(II)I"⟩, 101), (⟨"PennyBooksModel", "fraction", "(JJ)I"⟩, 101), (⟨"PennyBooksModel", "unlike", "(III)I"⟩, 101), (⟨"PennyBooksModel", "isGap", "(II)Z"⟩, 101), (⟨"PennyBooksModel", "hasLine", "(II)Z"⟩, 101), (⟨"PennyBooksModel", "edge", "(IZ)I"⟩, 101), (⟨"PennyBooksModel", "areWeeks", "(II)Z"⟩, 101), (⟨"PennyBooksModel", "hasAll", "(III)Z"⟩, 101), (⟨"PennyBooksModel", "isLike", "(III)Z"⟩, 101), (⟨"PennyBooksModel", "differs", "(IIIII)J"⟩, 101)]
theorem lw_r7 : ∀ q ∈ lw_privs_7, lw_okq q := List.forall_mem_cons.mpr ⟨lw_p96, List.forall_mem_cons.mpr ⟨lw_p97, List.forall_mem_cons.mpr ⟨lw_p98, List.forall_mem_cons.mpr ⟨lw_p99, List.forall_mem_cons.mpr ⟨lw_p100, List.forall_mem_cons.mpr ⟨lw_p101, List.forall_mem_cons.mpr ⟨lw_p102, List.forall_mem_cons.mpr ⟨lw_p103, List.forall_mem_cons.mpr ⟨lw_p104, List.forall_mem_cons.mpr ⟨lw_p105, fun _ h => absurd h List.not_mem_nil⟩⟩⟩⟩⟩⟩⟩⟩⟩⟩
def lw_privs : List (MethodName × Nat) := lw_privs_1 ++ (lw_privs_2 ++ (lw_privs_3 ++ (lw_privs_4 ++ (lw_privs_5 ++ (lw_privs_6 ++ (lw_privs_7))))))
def lw_tbl : List Cond := k2_sels lw_privs ++ tables_1
theorem lw_privs_ok : ∀ q ∈ lw_privs, lw_okq q := by
  show ∀ q ∈ lw_privs_1 ++ (lw_privs_2 ++ (lw_privs_3 ++ (lw_privs_4 ++ (lw_privs_5 ++ (lw_privs_6 ++ (lw_privs_7)))))), lw_okq q
  exact List.forall_mem_append.mpr ⟨lw_r1, List.forall_mem_append.mpr ⟨lw_r2, List.forall_mem_append.mpr ⟨lw_r3, List.forall_mem_append.mpr ⟨lw_r4, List.forall_mem_append.mpr ⟨lw_r5, List.forall_mem_append.mpr ⟨lw_r6, lw_r7⟩⟩⟩⟩⟩⟩
def RX0 : String := "PennyBooks$Judge"
def TX0 : u_T := fun k => match k with
  | 0 => ("PennyBooks$Judge", "ledger", "LPennyBooks$Ledger;", true)
  | 1 => ("PennyBooks$Judge", "editions", "I", false)
  | 2 => ("PennyBooks$Judge", "code", "[J", true)
  | 3 => ("PennyBooks$Judge", "sizes", "[I", true)
  | 4 => ("PennyBooks$Judge", "judgedAt", "[I", true)
  | 5 => ("PennyBooks$Judge", "verdicts", "[I", true)
  | 6 => ("PennyBooks$Judge", "stack", "[J", true)
  | _ => ("PennyBooks$Judge", "height", "I", false)
def tyX0 : Nat → FieldType := fun k => match k with
  | 0 => .object "PennyBooks$Ledger"
  | 1 => .int
  | 2 => .array .long
  | 3 => .array .int
  | 4 => .array .int
  | 5 => .array .int
  | 6 => .array .long
  | _ => .int
abbrev wsX00 : List Cond := u_ws RX0 TX0 8
theorem nmX0 : ∀ a, a < 8 → ∀ b, b < 8 → a ≠ b → (TX0 a).2.1 ≠ (TX0 b).2.1 := by decide +kernel
theorem tyX0_ok : ∀ k, k < 8 → parseFieldDescriptor (TX0 k).2.2.1 = some (tyX0 k) := by decide +kernel
abbrev cX0_init : ByteArray := prog_2_method_1_code
def yX0_init : MethodName := ⟨RX0, "<init>", "(LPennyBooks$Ledger;)V"⟩
abbrev cX0_bindingOf : ByteArray := prog_2_method_2_code
def yX0_bindingOf : MethodName := ⟨RX0, "bindingOf", "(I)I"⟩
abbrev cX0_addEdition : ByteArray := prog_2_method_3_code
def yX0_addEdition : MethodName := ⟨RX0, "addEdition", "([JI)I"⟩
abbrev cX0_judgeBy : ByteArray := prog_2_method_4_code
def yX0_judgeBy : MethodName := ⟨RX0, "judgeBy", "(I)Z"⟩
abbrev cX0_kindOf : ByteArray := prog_2_method_5_code
def yX0_kindOf : MethodName := ⟨RX0, "kindOf", "(II)I"⟩
abbrev cX0_unitsOf : ByteArray := prog_2_method_6_code
def yX0_unitsOf : MethodName := ⟨RX0, "unitsOf", "(II)I"⟩
abbrev cX0_ruleOf : ByteArray := prog_2_method_7_code
def yX0_ruleOf : MethodName := ⟨RX0, "ruleOf", "(II)I"⟩
abbrev cX0_unlikeKinds : ByteArray := prog_2_method_8_code
def yX0_unlikeKinds : MethodName := ⟨RX0, "unlikeKinds", "(II)I"⟩
abbrev cX0_spentOn : ByteArray := prog_2_method_9_code
def yX0_spentOn : MethodName := ⟨RX0, "spentOn", "(IIII)I"⟩
abbrev cX0_isOn : ByteArray := prog_2_method_10_code
def yX0_isOn : MethodName := ⟨RX0, "isOn", "(III)Z"⟩
abbrev cX0_judgeAnew : ByteArray := prog_2_method_11_code
def yX0_judgeAnew : MethodName := ⟨RX0, "judgeAnew", "(II)I"⟩
abbrev cX0_packed : ByteArray := prog_2_method_12_code
def yX0_packed : MethodName := ⟨RX0, "packed", "(IJJ)I"⟩
abbrev cX0_take : ByteArray := prog_2_method_13_code
def yX0_take : MethodName := ⟨RX0, "take", "(IJI)V"⟩
abbrev cX0_joined : ByteArray := prog_2_method_14_code
def yX0_joined : MethodName := ⟨RX0, "joined", "(IJJ)J"⟩
abbrev cX0_push : ByteArray := prog_2_method_15_code
def yX0_push : MethodName := ⟨RX0, "push", "(J)V"⟩
abbrev cX0_pop : ByteArray := prog_2_method_16_code
def yX0_pop : MethodName := ⟨RX0, "pop", "()J"⟩
def RX1 : String := "PennyBooks$Ledger"
def TX1 : u_T := fun k => match k with
  | 0 => ("PennyBooks$Ledger", "families", "I", false)
  | 1 => ("PennyBooks$Ledger", "classOf", "[I", true)
  | 2 => ("PennyBooks$Ledger", "landOf", "[I", true)
  | 3 => ("PennyBooks$Ledger", "lines", "I", false)
  | 4 => ("PennyBooks$Ledger", "familyOf", "[I", true)
  | 5 => ("PennyBooks$Ledger", "weekOf", "[I", true)
  | 6 => ("PennyBooks$Ledger", "shopOf", "[I", true)
  | 7 => ("PennyBooks$Ledger", "handOf", "[I", true)
  | 8 => ("PennyBooks$Ledger", "came", "[Z", true)
  | 9 => ("PennyBooks$Ledger", "knownFrom", "[I", true)
  | 10 => ("PennyBooks$Ledger", "wordsOf", "[J", true)
  | 11 => ("PennyBooks$Ledger", "written", "[I", true)
  | 12 => ("PennyBooks$Ledger", "penceOf", "[I", true)
  | 13 => ("PennyBooks$Ledger", "readings", "I", false)
  | 14 => ("PennyBooks$Ledger", "readLine", "[I", true)
  | 15 => ("PennyBooks$Ledger", "readPence", "[I", true)
  | 16 => ("PennyBooks$Ledger", "readFrom", "[I", true)
  | 17 => ("PennyBooks$Ledger", "nextWords", "[J", true)
  | 18 => ("PennyBooks$Ledger", "latestDay", "I", false)
  | _ => ("PennyBooks$Ledger", "lookedFrom", "I", false)
def tyX1 : Nat → FieldType := fun k => match k with
  | 0 => .int
  | 1 => .array .int
  | 2 => .array .int
  | 3 => .int
  | 4 => .array .int
  | 5 => .array .int
  | 6 => .array .int
  | 7 => .array .int
  | 8 => .array .boolean
  | 9 => .array .int
  | 10 => .array .long
  | 11 => .array .int
  | 12 => .array .int
  | 13 => .int
  | 14 => .array .int
  | 15 => .array .int
  | 16 => .array .int
  | 17 => .array .long
  | 18 => .int
  | _ => .int
abbrev wsX10 : List Cond := u_ws RX1 TX1 20
theorem nmX1 : ∀ a, a < 20 → ∀ b, b < 20 → a ≠ b → (TX1 a).2.1 ≠ (TX1 b).2.1 := by decide +kernel
theorem tyX1_ok : ∀ k, k < 20 → parseFieldDescriptor (TX1 k).2.2.1 = some (tyX1 k) := by decide +kernel
abbrev cX1_init : ByteArray := prog_3_method_1_code
def yX1_init : MethodName := ⟨RX1, "<init>", "()V"⟩
abbrev cX1_hasFamily : ByteArray := prog_3_method_2_code
def yX1_hasFamily : MethodName := ⟨RX1, "hasFamily", "(I)Z"⟩
abbrev cX1_hasLine : ByteArray := prog_3_method_3_code
def yX1_hasLine : MethodName := ⟨RX1, "hasLine", "(I)Z"⟩
abbrev cX1_isKnown : ByteArray := prog_3_method_4_code
def yX1_isKnown : MethodName := ⟨RX1, "isKnown", "(I)Z"⟩
abbrev cX1_went : ByteArray := prog_3_method_5_code
def yX1_went : MethodName := ⟨RX1, "went", "(I)Z"⟩
abbrev cX1_wentFrom : ByteArray := prog_3_method_6_code
def yX1_wentFrom : MethodName := ⟨RX1, "wentFrom", "(II)Z"⟩
abbrev cX1_wentFrom_ : ByteArray := prog_3_method_7_code
def yX1_wentFrom_ : MethodName := ⟨RX1, "wentFrom", "(III)Z"⟩
abbrev cX1_lineStatus : ByteArray := prog_3_method_8_code
def yX1_lineStatus : MethodName := ⟨RX1, "lineStatus", "(I)I"⟩
abbrev cX1_addFamily : ByteArray := prog_3_method_9_code
def yX1_addFamily : MethodName := ⟨RX1, "addFamily", "(II)I"⟩
abbrev cX1_wordOrNone : ByteArray := prog_3_method_10_code
def yX1_wordOrNone : MethodName := ⟨RX1, "wordOrNone", "(J)Z"⟩
abbrev cX1_tellWords : ByteArray := prog_3_method_11_code
def yX1_tellWords : MethodName := ⟨RX1, "tellWords", "(JJJ)V"⟩
abbrev cX1_wordsTold : ByteArray := prog_3_method_12_code
def yX1_wordsTold : MethodName := ⟨RX1, "wordsTold", "()Z"⟩
abbrev cX1_hasWord : ByteArray := prog_3_method_13_code
def yX1_hasWord : MethodName := ⟨RX1, "hasWord", "(IJ)Z"⟩
abbrev cX1_addLine : ByteArray := prog_3_method_14_code
def yX1_addLine : MethodName := ⟨RX1, "addLine", "(IIIIZII)I"⟩
abbrev cX1_addReading : ByteArray := prog_3_method_15_code
def yX1_addReading : MethodName := ⟨RX1, "addReading", "(III)V"⟩
abbrev cX1_lookFrom : ByteArray := prog_3_method_16_code
def yX1_lookFrom : MethodName := ⟨RX1, "lookFrom", "(I)V"⟩
abbrev cX1_spentOnAll : ByteArray := prog_3_method_17_code
def yX1_spentOnAll : MethodName := ⟨RX1, "spentOnAll", "(II)I"⟩
def RX2 : String := "PennyBooks$Losses"
def TX2 : u_T := fun k => match k with
  | 0 => ("PennyBooks$Losses", "ledger", "LPennyBooks$Ledger;", true)
  | 1 => ("PennyBooks$Losses", "judge", "LPennyBooks$Judge;", true)
  | 2 => ("PennyBooks$Losses", "losses", "I", false)
  | 3 => ("PennyBooks$Losses", "familyOf", "[I", true)
  | 4 => ("PennyBooks$Losses", "weekOf", "[I", true)
  | 5 => ("PennyBooks$Losses", "above", "J", false)
  | _ => ("PennyBooks$Losses", "below", "J", false)
def tyX2 : Nat → FieldType := fun k => match k with
  | 0 => .object "PennyBooks$Ledger"
  | 1 => .object "PennyBooks$Judge"
  | 2 => .int
  | 3 => .array .int
  | 4 => .array .int
  | 5 => .long
  | _ => .long
abbrev wsX20 : List Cond := u_ws RX2 TX2 7
theorem nmX2 : ∀ a, a < 7 → ∀ b, b < 7 → a ≠ b → (TX2 a).2.1 ≠ (TX2 b).2.1 := by decide +kernel
theorem tyX2_ok : ∀ k, k < 7 → parseFieldDescriptor (TX2 k).2.2.1 = some (tyX2 k) := by decide +kernel
abbrev cX2_init : ByteArray := prog_4_method_1_code
def yX2_init : MethodName := ⟨RX2, "<init>", "(LPennyBooks$Ledger;LPennyBooks$Judge;)V"⟩
abbrev cX2_addLoss : ByteArray := prog_4_method_2_code
def yX2_addLoss : MethodName := ⟨RX2, "addLoss", "(II)I"⟩
abbrev cX2_spanStatus : ByteArray := prog_4_method_3_code
def yX2_spanStatus : MethodName := ⟨RX2, "spanStatus", "(II)I"⟩
abbrev cX2_countLikes : ByteArray := prog_4_method_4_code
def yX2_countLikes : MethodName := ⟨RX2, "countLikes", "(II)I"⟩
abbrev cX2_measure : ByteArray := prog_4_method_5_code
def yX2_measure : MethodName := ⟨RX2, "measure", "(IIII)Z"⟩
abbrev cX2_isLike : ByteArray := prog_4_method_6_code
def yX2_isLike : MethodName := ⟨RX2, "isLike", "(III)Z"⟩
abbrev cX2_lostNear : ByteArray := prog_4_method_7_code
def yX2_lostNear : MethodName := ⟨RX2, "lostNear", "(III)Z"⟩
abbrev cX2_wentInEach : ByteArray := prog_4_method_8_code
def yX2_wentInEach : MethodName := ⟨RX2, "wentInEach", "(III)Z"⟩
abbrev cX2_turn : ByteArray := prog_4_method_9_code
def yX2_turn : MethodName := ⟨RX2, "turn", "(IIIII)J"⟩
def RX3 : String := "PennyBooks$Mouths"
def TX3 : u_T := fun k => match k with
  | 0 => ("PennyBooks$Mouths", "members", "I", false)
  | 1 => ("PennyBooks$Mouths", "familyOf", "[I", true)
  | 2 => ("PennyBooks$Mouths", "bornIn", "[I", true)
  | 3 => ("PennyBooks$Mouths", "thereFrom", "[I", true)
  | 4 => ("PennyBooks$Mouths", "thereTo", "[I", true)
  | _ => ("PennyBooks$Mouths", "hundredths", "[I", true)
def tyX3 : Nat → FieldType := fun k => match k with
  | 0 => .int
  | 1 => .array .int
  | 2 => .array .int
  | 3 => .array .int
  | 4 => .array .int
  | _ => .array .int
abbrev wsX30 : List Cond := u_ws RX3 TX3 6
theorem nmX3 : ∀ a, a < 6 → ∀ b, b < 6 → a ≠ b → (TX3 a).2.1 ≠ (TX3 b).2.1 := by decide +kernel
theorem tyX3_ok : ∀ k, k < 6 → parseFieldDescriptor (TX3 k).2.2.1 = some (tyX3 k) := by decide +kernel
abbrev cX3_init : ByteArray := prog_5_method_1_code
def yX3_init : MethodName := ⟨RX3, "<init>", "()V"⟩
abbrev cX3_addMember : ByteArray := prog_5_method_2_code
def yX3_addMember : MethodName := ⟨RX3, "addMember", "(IIII)V"⟩
abbrev cX3_rescale : ByteArray := prog_5_method_3_code
def yX3_rescale : MethodName := ⟨RX3, "rescale", "(IIII)V"⟩
abbrev cX3_together : ByteArray := prog_5_method_4_code
def yX3_together : MethodName := ⟨RX3, "together", "(II)I"⟩
def RX4 : String := "PennyBooks$Prices"
def TX4 : u_T := fun k => match k with
  | 0 => ("PennyBooks$Prices", "ledger", "LPennyBooks$Ledger;", true)
  | 1 => ("PennyBooks$Prices", "judge", "LPennyBooks$Judge;", true)
  | 2 => ("PennyBooks$Prices", "shut", "I", false)
  | 3 => ("PennyBooks$Prices", "many", "I", false)
  | 4 => ("PennyBooks$Prices", "pence", "[I", true)
  | _ => ("PennyBooks$Prices", "units", "[I", true)
def tyX4 : Nat → FieldType := fun k => match k with
  | 0 => .object "PennyBooks$Ledger"
  | 1 => .object "PennyBooks$Judge"
  | 2 => .int
  | 3 => .int
  | 4 => .array .int
  | _ => .array .int
abbrev wsX40 : List Cond := u_ws RX4 TX4 6
theorem nmX4 : ∀ a, a < 6 → ∀ b, b < 6 → a ≠ b → (TX4 a).2.1 ≠ (TX4 b).2.1 := by decide +kernel
theorem tyX4_ok : ∀ k, k < 6 → parseFieldDescriptor (TX4 k).2.2.1 = some (tyX4 k) := by decide +kernel
abbrev cX4_init : ByteArray := prog_6_method_1_code
def yX4_init : MethodName := ⟨RX4, "<init>", "(LPennyBooks$Ledger;LPennyBooks$Judge;)V"⟩
abbrev cX4_gather : ByteArray := prog_6_method_2_code
def yX4_gather : MethodName := ⟨RX4, "gather", "(III)I"⟩
abbrev cX4_insert : ByteArray := prog_6_method_3_code
def yX4_insert : MethodName := ⟨RX4, "insert", "(II)V"⟩
abbrev cX4_placeOf : ByteArray := prog_6_method_4_code
def yX4_placeOf : MethodName := ⟨RX4, "placeOf", "(I)I"⟩
def RX5 : String := "PennyBooks$Reader"
def TX5 : u_T := fun k => match k with
  | 0 => ("PennyBooks$Reader", "tape", "[B", true)
  | 1 => ("PennyBooks$Reader", "filled", "I", false)
  | 2 => ("PennyBooks$Reader", "length", "I", false)
  | 3 => ("PennyBooks$Reader", "token", "I", false)
  | 4 => ("PennyBooks$Reader", "start", "I", false)
  | 5 => ("PennyBooks$Reader", "end", "I", false)
  | 6 => ("PennyBooks$Reader", "value", "J", false)
  | 7 => ("PennyBooks$Reader", "state", "I", false)
  | 8 => ("PennyBooks$Reader", "sum", "I", false)
  | 9 => ("PennyBooks$Reader", "brackets", "I", false)
  | 10 => ("PennyBooks$Reader", "waiting", "[I", true)
  | 11 => ("PennyBooks$Reader", "waits", "I", false)
  | 12 => ("PennyBooks$Reader", "code", "[J", true)
  | 13 => ("PennyBooks$Reader", "size", "I", false)
  | 14 => ("PennyBooks$Reader", "test", "I", false)
  | 15 => ("PennyBooks$Reader", "everRead", "Z", false)
  | 16 => ("PennyBooks$Reader", "fault", "I", false)
  | 17 => ("PennyBooks$Reader", "place", "I", false)
  | _ => ("PennyBooks$Reader", "rules", "I", false)
def tyX5 : Nat → FieldType := fun k => match k with
  | 0 => .array .byte
  | 1 => .int
  | 2 => .int
  | 3 => .int
  | 4 => .int
  | 5 => .int
  | 6 => .long
  | 7 => .int
  | 8 => .int
  | 9 => .int
  | 10 => .array .int
  | 11 => .int
  | 12 => .array .long
  | 13 => .int
  | 14 => .int
  | 15 => .boolean
  | 16 => .int
  | 17 => .int
  | _ => .int
abbrev wsX50 : List Cond := u_ws RX5 TX5 19
theorem nmX5 : ∀ a, a < 19 → ∀ b, b < 19 → a ≠ b → (TX5 a).2.1 ≠ (TX5 b).2.1 := by decide +kernel
theorem tyX5_ok : ∀ k, k < 19 → parseFieldDescriptor (TX5 k).2.2.1 = some (tyX5 k) := by decide +kernel
abbrev cX5_init : ByteArray := prog_7_method_1_code
def yX5_init : MethodName := ⟨RX5, "<init>", "()V"⟩
abbrev cX5_append : ByteArray := prog_7_method_2_code
def yX5_append : MethodName := ⟨RX5, "append", "(IIIII)I"⟩
abbrev cX5_appendFour : ByteArray := prog_7_method_3_code
def yX5_appendFour : MethodName := ⟨RX5, "appendFour", "(I)V"⟩
abbrev cX5_report : ByteArray := prog_7_method_4_code
def yX5_report : MethodName := ⟨RX5, "report", "(I)I"⟩
abbrev cX5_readText : ByteArray := prog_7_method_5_code
def yX5_readText : MethodName := ⟨RX5, "readText", "(I)Z"⟩
abbrev cX5_nextToken : ByteArray := prog_7_method_6_code
def yX5_nextToken : MethodName := ⟨RX5, "nextToken", "()V"⟩
abbrev cX5_nextWord : ByteArray := prog_7_method_7_code
def yX5_nextWord : MethodName := ⟨RX5, "nextWord", "()V"⟩
abbrev cX5_isLongWord : ByteArray := prog_7_method_8_code
def yX5_isLongWord : MethodName := ⟨RX5, "isLongWord", "()Z"⟩
abbrev cX5_nextNumber : ByteArray := prog_7_method_9_code
def yX5_nextNumber : MethodName := ⟨RX5, "nextNumber", "()V"⟩
abbrev cX5_isLetter : ByteArray := prog_7_method_10_code
def yX5_isLetter : MethodName := ⟨RX5, "isLetter", "(I)Z"⟩
abbrev cX5_isDigit : ByteArray := prog_7_method_11_code
def yX5_isDigit : MethodName := ⟨RX5, "isDigit", "(I)Z"⟩
abbrev cX5_refuse : ByteArray := prog_7_method_12_code
def yX5_refuse : MethodName := ⟨RX5, "refuse", "(I)V"⟩
abbrev cX5_takeToken : ByteArray := prog_7_method_13_code
def yX5_takeToken : MethodName := ⟨RX5, "takeToken", "()V"⟩
abbrev cX5_takeAtRule : ByteArray := prog_7_method_14_code
def yX5_takeAtRule : MethodName := ⟨RX5, "takeAtRule", "()V"⟩
abbrev cX5_takeAtOne : ByteArray := prog_7_method_15_code
def yX5_takeAtOne : MethodName := ⟨RX5, "takeAtOne", "()V"⟩
abbrev cX5_takeName : ByteArray := prog_7_method_16_code
def yX5_takeName : MethodName := ⟨RX5, "takeName", "()V"⟩
abbrev cX5_takeBehindOne : ByteArray := prog_7_method_17_code
def yX5_takeBehindOne : MethodName := ⟨RX5, "takeBehindOne", "()V"⟩
abbrev cX5_takeBehindThen : ByteArray := prog_7_method_18_code
def yX5_takeBehindThen : MethodName := ⟨RX5, "takeBehindThen", "()V"⟩
abbrev cX5_openSum : ByteArray := prog_7_method_19_code
def yX5_openSum : MethodName := ⟨RX5, "openSum", "(I)V"⟩
abbrev cX5_takeAtom : ByteArray := prog_7_method_20_code
def yX5_takeAtom : MethodName := ⟨RX5, "takeAtom", "()V"⟩
abbrev cX5_atomStep : ByteArray := prog_7_method_21_code
def yX5_atomStep : MethodName := ⟨RX5, "atomStep", "()I"⟩
abbrev cX5_takeBehindAtom : ByteArray := prog_7_method_22_code
def yX5_takeBehindAtom : MethodName := ⟨RX5, "takeBehindAtom", "()V"⟩
abbrev cX5_operatorStep : ByteArray := prog_7_method_23_code
def yX5_operatorStep : MethodName := ⟨RX5, "operatorStep", "()I"⟩
abbrev cX5_closeBracket : ByteArray := prog_7_method_24_code
def yX5_closeBracket : MethodName := ⟨RX5, "closeBracket", "()V"⟩
abbrev cX5_takeComparison : ByteArray := prog_7_method_25_code
def yX5_takeComparison : MethodName := ⟨RX5, "takeComparison", "()V"⟩
abbrev cX5_comparisonStep : ByteArray := prog_7_method_26_code
def yX5_comparisonStep : MethodName := ⟨RX5, "comparisonStep", "()I"⟩
abbrev cX5_takeBehindResult : ByteArray := prog_7_method_27_code
def yX5_takeBehindResult : MethodName := ⟨RX5, "takeBehindResult", "()V"⟩
abbrev cX5_endRule : ByteArray := prog_7_method_28_code
def yX5_endRule : MethodName := ⟨RX5, "endRule", "()V"⟩
abbrev cX5_hold : ByteArray := prog_7_method_29_code
def yX5_hold : MethodName := ⟨RX5, "hold", "(I)V"⟩
abbrev cX5_release : ByteArray := prog_7_method_30_code
def yX5_release : MethodName := ⟨RX5, "release", "(I)V"⟩
abbrev cX5_emit : ByteArray := prog_7_method_31_code
def yX5_emit : MethodName := ⟨RX5, "emit", "(IJ)V"⟩
def RX6 : String := "PennyBooks$Sums"
def TX6 : u_T := fun k => match k with
  | 0 => ("PennyBooks$Sums", "ledger", "LPennyBooks$Ledger;", true)
  | 1 => ("PennyBooks$Sums", "told", "I", false)
  | 2 => ("PennyBooks$Sums", "toldFamily", "[I", true)
  | 3 => ("PennyBooks$Sums", "toldWeek", "[I", true)
  | 4 => ("PennyBooks$Sums", "toldSum", "[I", true)
  | 5 => ("PennyBooks$Sums", "went", "I", false)
  | 6 => ("PennyBooks$Sums", "wentLine", "[I", true)
  | 7 => ("PennyBooks$Sums", "adds", "[I", true)
  | 8 => ("PennyBooks$Sums", "tried", "[I", true)
  | 9 => ("PennyBooks$Sums", "first", "[I", true)
  | 10 => ("PennyBooks$Sums", "fewest", "I", false)
  | 11 => ("PennyBooks$Sums", "rivals", "I", false)
  | _ => ("PennyBooks$Sums", "carry", "I", false)
def tyX6 : Nat → FieldType := fun k => match k with
  | 0 => .object "PennyBooks$Ledger"
  | 1 => .int
  | 2 => .array .int
  | 3 => .array .int
  | 4 => .array .int
  | 5 => .int
  | 6 => .array .int
  | 7 => .array .int
  | 8 => .array .int
  | 9 => .array .int
  | 10 => .int
  | 11 => .int
  | _ => .int
abbrev wsX60 : List Cond := u_ws RX6 TX6 13
theorem nmX6 : ∀ a, a < 13 → ∀ b, b < 13 → a ≠ b → (TX6 a).2.1 ≠ (TX6 b).2.1 := by decide +kernel
theorem tyX6_ok : ∀ k, k < 13 → parseFieldDescriptor (TX6 k).2.2.1 = some (tyX6 k) := by decide +kernel
abbrev cX6_init : ByteArray := prog_8_method_1_code
def yX6_init : MethodName := ⟨RX6, "<init>", "(LPennyBooks$Ledger;)V"⟩
abbrev cX6_find : ByteArray := prog_8_method_2_code
def yX6_find : MethodName := ⟨RX6, "find", "(II)I"⟩
abbrev cX6_isTold : ByteArray := prog_8_method_3_code
def yX6_isTold : MethodName := ⟨RX6, "isTold", "(II)Z"⟩
abbrev cX6_hasRoom : ByteArray := prog_8_method_4_code
def yX6_hasRoom : MethodName := ⟨RX6, "hasRoom", "(II)Z"⟩
abbrev cX6_tell : ByteArray := prog_8_method_5_code
def yX6_tell : MethodName := ⟨RX6, "tell", "(III)V"⟩
abbrev cX6_outBy : ByteArray := prog_8_method_6_code
def yX6_outBy : MethodName := ⟨RX6, "outBy", "(II)I"⟩
abbrev cX6_explainLine : ByteArray := prog_8_method_7_code
def yX6_explainLine : MethodName := ⟨RX6, "explainLine", "(I)Z"⟩
abbrev cX6_slipOf : ByteArray := prog_8_method_8_code
def yX6_slipOf : MethodName := ⟨RX6, "slipOf", "(I)I"⟩
abbrev cX6_explain : ByteArray := prog_8_method_9_code
def yX6_explain : MethodName := ⟨RX6, "explain", "(II)Z"⟩
abbrev cX6_gather : ByteArray := prog_8_method_10_code
def yX6_gather : MethodName := ⟨RX6, "gather", "(II)Z"⟩
abbrev cX6_listSlips : ByteArray := prog_8_method_11_code
def yX6_listSlips : MethodName := ⟨RX6, "listSlips", "(II)V"⟩
abbrev cX6_tryFrom : ByteArray := prog_8_method_12_code
def yX6_tryFrom : MethodName := ⟨RX6, "tryFrom", "(III)V"⟩
abbrev cX6_tryCarry : ByteArray := prog_8_method_13_code
def yX6_tryCarry : MethodName := ⟨RX6, "tryCarry", "(II)V"⟩
abbrev cX6_found : ByteArray := prog_8_method_14_code
def yX6_found : MethodName := ⟨RX6, "found", "(I)V"⟩
def RX7 : String := "PennyBooks$Sundries"
def TX7 : u_T := fun k => match k with
  | 0 => ("PennyBooks$Sundries", "ledger", "LPennyBooks$Ledger;", true)
  | 1 => ("PennyBooks$Sundries", "judge", "LPennyBooks$Judge;", true)
  | 2 => ("PennyBooks$Sundries", "near", "I", false)
  | 3 => ("PennyBooks$Sundries", "nearestLine", "[I", true)
  | 4 => ("PennyBooks$Sundries", "prices", "[I", true)
  | 5 => ("PennyBooks$Sundries", "most", "[I", true)
  | 6 => ("PennyBooks$Sundries", "unitsByWeek", "[I", true)
  | 7 => ("PennyBooks$Sundries", "waysTo", "[J", true)
  | 8 => ("PennyBooks$Sundries", "fewest", "I", false)
  | _ => ("PennyBooks$Sundries", "greatest", "I", false)
def tyX7 : Nat → FieldType := fun k => match k with
  | 0 => .object "PennyBooks$Ledger"
  | 1 => .object "PennyBooks$Judge"
  | 2 => .int
  | 3 => .array .int
  | 4 => .array .int
  | 5 => .array .int
  | 6 => .array .int
  | 7 => .array .long
  | 8 => .int
  | _ => .int
abbrev wsX70 : List Cond := u_ws RX7 TX7 10
theorem nmX7 : ∀ a, a < 10 → ∀ b, b < 10 → a ≠ b → (TX7 a).2.1 ≠ (TX7 b).2.1 := by decide +kernel
theorem tyX7_ok : ∀ k, k < 10 → parseFieldDescriptor (TX7 k).2.2.1 = some (tyX7 k) := by decide +kernel
abbrev cX7_init : ByteArray := prog_9_method_1_code
def yX7_init : MethodName := ⟨RX7, "<init>", "(LPennyBooks$Ledger;LPennyBooks$Judge;)V"⟩
abbrev cX7_isSundries : ByteArray := prog_9_method_2_code
def yX7_isSundries : MethodName := ⟨RX7, "isSundries", "(II)Z"⟩
abbrev cX7_waysOf : ByteArray := prog_9_method_3_code
def yX7_waysOf : MethodName := ⟨RX7, "waysOf", "(II)J"⟩
abbrev cX7_findSpan : ByteArray := prog_9_method_4_code
def yX7_findSpan : MethodName := ⟨RX7, "findSpan", "(III)Z"⟩
abbrev cX7_gatherThings : ByteArray := prog_9_method_5_code
def yX7_gatherThings : MethodName := ⟨RX7, "gatherThings", "(II)V"⟩
abbrev cX7_addThing : ByteArray := prog_9_method_6_code
def yX7_addThing : MethodName := ⟨RX7, "addThing", "(III)V"⟩
abbrev cX7_isNearer : ByteArray := prog_9_method_7_code
def yX7_isNearer : MethodName := ⟨RX7, "isNearer", "(III)Z"⟩
abbrev cX7_countWays : ByteArray := prog_9_method_8_code
def yX7_countWays : MethodName := ⟨RX7, "countWays", "(II)V"⟩
abbrev cX7_addAnyNumber : ByteArray := prog_9_method_9_code
def yX7_addAnyNumber : MethodName := ⟨RX7, "addAnyNumber", "(II)V"⟩
abbrev cX7_takeThoseAbove : ByteArray := prog_9_method_10_code
def yX7_takeThoseAbove : MethodName := ⟨RX7, "takeThoseAbove", "(II)V"⟩
def RX8 : String := "PennyBooks$Trays"
def TX8 : u_T := fun k => match k with
  | 0 => ("PennyBooks$Trays", "cells", "[J", true)
  | 1 => ("PennyBooks$Trays", "sorts", "[I", true)
  | _ => ("PennyBooks$Trays", "sizes", "[I", true)
def tyX8 : Nat → FieldType := fun k => match k with
  | 0 => .array .long
  | 1 => .array .int
  | _ => .array .int
abbrev wsX80 : List Cond := u_ws RX8 TX8 3
theorem nmX8 : ∀ a, a < 3 → ∀ b, b < 3 → a ≠ b → (TX8 a).2.1 ≠ (TX8 b).2.1 := by decide +kernel
theorem tyX8_ok : ∀ k, k < 3 → parseFieldDescriptor (TX8 k).2.2.1 = some (tyX8 k) := by decide +kernel
abbrev cX8_init : ByteArray := prog_10_method_1_code
def yX8_init : MethodName := ⟨RX8, "<init>", "()V"⟩
abbrev cX8_lay : ByteArray := prog_10_method_2_code
def yX8_lay : MethodName := ⟨RX8, "lay", "(III)V"⟩
abbrev cX8_placeStatus : ByteArray := prog_10_method_3_code
def yX8_placeStatus : MethodName := ⟨RX8, "placeStatus", "(II)I"⟩
abbrev cX8_put : ByteArray := prog_10_method_4_code
def yX8_put : MethodName := ⟨RX8, "put", "(IIJ)V"⟩
abbrev cX8_at : ByteArray := prog_10_method_5_code
def yX8_at : MethodName := ⟨RX8, "at", "(II)J"⟩
abbrev cX8_pourStatus : ByteArray := prog_10_method_6_code
def yX8_pourStatus : MethodName := ⟨RX8, "pourStatus", "(IIIII)I"⟩
abbrev cX8_move : ByteArray := prog_10_method_7_code
def yX8_move : MethodName := ⟨RX8, "move", "(IIIII)V"⟩
abbrev cX8_cut : ByteArray := prog_10_method_8_code
def yX8_cut : MethodName := ⟨RX8, "cut", "(JI)J"⟩
def RX9 : String := "PennyBooks$Weeks"
def TX9 : u_T := fun k => match k with
  | 0 => ("PennyBooks$Weeks", "ledger", "LPennyBooks$Ledger;", true)
  | 1 => ("PennyBooks$Weeks", "hands", "[I", true)
  | 2 => ("PennyBooks$Weeks", "spentIn", "[I", true)
  | 3 => ("PennyBooks$Weeks", "firstWeek", "I", false)
  | 4 => ("PennyBooks$Weeks", "lastWeek", "I", false)
  | 5 => ("PennyBooks$Weeks", "least", "I", false)
  | _ => ("PennyBooks$Weeks", "greatest", "I", false)
def tyX9 : Nat → FieldType := fun k => match k with
  | 0 => .object "PennyBooks$Ledger"
  | 1 => .array .int
  | 2 => .array .int
  | 3 => .int
  | 4 => .int
  | 5 => .int
  | _ => .int
abbrev wsX90 : List Cond := u_ws RX9 TX9 7
theorem nmX9 : ∀ a, a < 7 → ∀ b, b < 7 → a ≠ b → (TX9 a).2.1 ≠ (TX9 b).2.1 := by decide +kernel
theorem tyX9_ok : ∀ k, k < 7 → parseFieldDescriptor (TX9 k).2.2.1 = some (tyX9 k) := by decide +kernel
abbrev cX9_init : ByteArray := prog_11_method_1_code
def yX9_init : MethodName := ⟨RX9, "<init>", "(LPennyBooks$Ledger;)V"⟩
abbrev cX9_unlikeHands : ByteArray := prog_11_method_2_code
def yX9_unlikeHands : MethodName := ⟨RX9, "unlikeHands", "(III)I"⟩
abbrev cX9_bestChange : ByteArray := prog_11_method_3_code
def yX9_bestChange : MethodName := ⟨RX9, "bestChange", "(II)I"⟩
abbrev cX9_unlikeAt : ByteArray := prog_11_method_4_code
def yX9_unlikeAt : MethodName := ⟨RX9, "unlikeAt", "(II)I"⟩
abbrev cX9_layOut : ByteArray := prog_11_method_5_code
def yX9_layOut : MethodName := ⟨RX9, "layOut", "(I)V"⟩
abbrev cX9_countGaps : ByteArray := prog_11_method_6_code
def yX9_countGaps : MethodName := ⟨RX9, "countGaps", "(I)I"⟩
abbrev cX9_findBounds : ByteArray := prog_11_method_7_code
def yX9_findBounds : MethodName := ⟨RX9, "findBounds", "(III)Z"⟩
def RX10 : String := "PennyBooks$Weights"
def TX10 : u_T := fun k => match k with
  | 0 => ("PennyBooks$Weights", "ledger", "LPennyBooks$Ledger;", true)
  | 1 => ("PennyBooks$Weights", "weighed", "I", false)
  | 2 => ("PennyBooks$Weights", "nearest", "[I", true)
  | 3 => ("PennyBooks$Weights", "lacks", "[I", true)
  | _ => ("PennyBooks$Weights", "room", "[I", true)
def tyX10 : Nat → FieldType := fun k => match k with
  | 0 => .object "PennyBooks$Ledger"
  | 1 => .int
  | 2 => .array .int
  | 3 => .array .int
  | _ => .array .int
abbrev wsX100 : List Cond := u_ws RX10 TX10 5
theorem nmX10 : ∀ a, a < 5 → ∀ b, b < 5 → a ≠ b → (TX10 a).2.1 ≠ (TX10 b).2.1 := by decide +kernel
theorem tyX10_ok : ∀ k, k < 5 → parseFieldDescriptor (TX10 k).2.2.1 = some (tyX10 k) := by decide +kernel
abbrev cX10_init : ByteArray := prog_12_method_1_code
def yX10_init : MethodName := ⟨RX10, "<init>", "(LPennyBooks$Ledger;)V"⟩
abbrev cX10_takeMargins : ByteArray := prog_12_method_2_code
def yX10_takeMargins : MethodName := ⟨RX10, "takeMargins", "(LPennyBooks$Trays;I)Z"⟩
abbrev cX10_findNearest : ByteArray := prog_12_method_3_code
def yX10_findNearest : MethodName := ⟨RX10, "findNearest", "(II)I"⟩
abbrev cX10_cellOf : ByteArray := prog_12_method_4_code
def yX10_cellOf : MethodName := ⟨RX10, "cellOf", "(I)I"⟩
abbrev cX10_leastUnlike : ByteArray := prog_12_method_5_code
def yX10_leastUnlike : MethodName := ⟨RX10, "leastUnlike", "()I"⟩
abbrev cX10_cutBehind : ByteArray := prog_12_method_6_code
def yX10_cutBehind : MethodName := ⟨RX10, "cutBehind", "(I)I"⟩
def RX11 : String := "PennyBooks"
def TX11 : u_T := fun k => match k with
  | 0 => ("PennyBooks", "status", "I", false)
  | 1 => ("PennyBooks", "top", "J", false)
  | 2 => ("PennyBooks", "bottom", "J", false)
  | 3 => ("PennyBooks", "trays", "LPennyBooks$Trays;", true)
  | 4 => ("PennyBooks", "ledger", "LPennyBooks$Ledger;", true)
  | 5 => ("PennyBooks", "reader", "LPennyBooks$Reader;", true)
  | 6 => ("PennyBooks", "judge", "LPennyBooks$Judge;", true)
  | 7 => ("PennyBooks", "sums", "LPennyBooks$Sums;", true)
  | 8 => ("PennyBooks", "sundries", "LPennyBooks$Sundries;", true)
  | 9 => ("PennyBooks", "mouths", "LPennyBooks$Mouths;", true)
  | 10 => ("PennyBooks", "prices", "LPennyBooks$Prices;", true)
  | 11 => ("PennyBooks", "weeks", "LPennyBooks$Weeks;", true)
  | 12 => ("PennyBooks", "weights", "LPennyBooks$Weights;", true)
  | _ => ("PennyBooks", "losses", "LPennyBooks$Losses;", true)
def tyX11 : Nat → FieldType := fun k => match k with
  | 0 => .int
  | 1 => .long
  | 2 => .long
  | 3 => .object "PennyBooks$Trays"
  | 4 => .object "PennyBooks$Ledger"
  | 5 => .object "PennyBooks$Reader"
  | 6 => .object "PennyBooks$Judge"
  | 7 => .object "PennyBooks$Sums"
  | 8 => .object "PennyBooks$Sundries"
  | 9 => .object "PennyBooks$Mouths"
  | 10 => .object "PennyBooks$Prices"
  | 11 => .object "PennyBooks$Weeks"
  | 12 => .object "PennyBooks$Weights"
  | _ => .object "PennyBooks$Losses"
abbrev wsX110 : List Cond := u_ws RX11 TX11 14
theorem nmX11 : ∀ a, a < 14 → ∀ b, b < 14 → a ≠ b → (TX11 a).2.1 ≠ (TX11 b).2.1 := by decide +kernel
theorem tyX11_ok : ∀ k, k < 14 → parseFieldDescriptor (TX11 k).2.2.1 = some (tyX11 k) := by decide +kernel
abbrev cX11_init : ByteArray := prog_1_method_1_code
def yX11_init : MethodName := ⟨RX11, "<init>", "()V"⟩
abbrev cX11_status : ByteArray := prog_1_method_2_code
def yX11_status : MethodName := ⟨RX11, "status", "()I"⟩
abbrev cX11_top : ByteArray := prog_1_method_3_code
def yX11_top : MethodName := ⟨RX11, "top", "()J"⟩
abbrev cX11_bottom : ByteArray := prog_1_method_4_code
def yX11_bottom : MethodName := ⟨RX11, "bottom", "()J"⟩
abbrev cX11_tray : ByteArray := prog_1_method_5_code
def yX11_tray : MethodName := ⟨RX11, "tray", "(III)Z"⟩
abbrev cX11_write : ByteArray := prog_1_method_6_code
def yX11_write : MethodName := ⟨RX11, "write", "(IIJ)Z"⟩
abbrev cX11_read : ByteArray := prog_1_method_7_code
def yX11_read : MethodName := ⟨RX11, "read", "(II)J"⟩
abbrev cX11_pour : ByteArray := prog_1_method_8_code
def yX11_pour : MethodName := ⟨RX11, "pour", "(IIIII)Z"⟩
abbrev cX11_family : ByteArray := prog_1_method_9_code
def yX11_family : MethodName := ⟨RX11, "family", "(II)I"⟩
abbrev cX11_words : ByteArray := prog_1_method_10_code
def yX11_words : MethodName := ⟨RX11, "words", "(JJJ)Z"⟩
abbrev cX11_line : ByteArray := prog_1_method_11_code
def yX11_line : MethodName := ⟨RX11, "line", "(IIIIZII)I"⟩
abbrev cX11_reading : ByteArray := prog_1_method_12_code
def yX11_reading : MethodName := ⟨RX11, "reading", "(III)Z"⟩
abbrev cX11_asof : ByteArray := prog_1_method_13_code
def yX11_asof : MethodName := ⟨RX11, "asof", "(I)Z"⟩
abbrev cX11_pence : ByteArray := prog_1_method_14_code
def yX11_pence : MethodName := ⟨RX11, "pence", "(I)I"⟩
abbrev cX11_feed : ByteArray := prog_1_method_15_code
def yX11_feed : MethodName := ⟨RX11, "feed", "(IIIII)I"⟩
abbrev cX11_edition : ByteArray := prog_1_method_16_code
def yX11_edition : MethodName := ⟨RX11, "edition", "(I)I"⟩
abbrev cX11_fault : ByteArray := prog_1_method_17_code
def yX11_fault : MethodName := ⟨RX11, "fault", "(I)I"⟩
abbrev cX11_kind : ByteArray := prog_1_method_18_code
def yX11_kind : MethodName := ⟨RX11, "kind", "(III)I"⟩
abbrev cX11_moved : ByteArray := prog_1_method_19_code
def yX11_moved : MethodName := ⟨RX11, "moved", "(II)I"⟩
abbrev cX11_spent : ByteArray := prog_1_method_20_code
def yX11_spent : MethodName := ⟨RX11, "spent", "(IIII)I"⟩
abbrev cX11_told : ByteArray := prog_1_method_21_code
def yX11_told : MethodName := ⟨RX11, "told", "(III)Z"⟩
abbrev cX11_out : ByteArray := prog_1_method_22_code
def yX11_out : MethodName := ⟨RX11, "out", "(II)I"⟩
abbrev cX11_slips : ByteArray := prog_1_method_23_code
def yX11_slips : MethodName := ⟨RX11, "slips", "(III)I"⟩
abbrev cX11_slip : ByteArray := prog_1_method_24_code
def yX11_slip : MethodName := ⟨RX11, "slip", "(I)I"⟩
abbrev cX11_rules : ByteArray := prog_1_method_25_code
def yX11_rules : MethodName := ⟨RX11, "rules", "(II)Z"⟩
abbrev cX11_ways : ByteArray := prog_1_method_26_code
def yX11_ways : MethodName := ⟨RX11, "ways", "(II)J"⟩
abbrev cX11_span : ByteArray := prog_1_method_27_code
def yX11_span : MethodName := ⟨RX11, "span", "(IIII)I"⟩
abbrev cX11_sundriesStatus : ByteArray := prog_1_method_28_code
def yX11_sundriesStatus : MethodName := ⟨RX11, "sundriesStatus", "(II)I"⟩
abbrev cX11_member : ByteArray := prog_1_method_29_code
def yX11_member : MethodName := ⟨RX11, "member", "(IIII)Z"⟩
abbrev cX11_scale : ByteArray := prog_1_method_30_code
def yX11_scale : MethodName := ⟨RX11, "scale", "(IIII)Z"⟩
abbrev cX11_mouths : ByteArray := prog_1_method_31_code
def yX11_mouths : MethodName := ⟨RX11, "mouths", "(II)I"⟩
abbrev cX11_share : ByteArray := prog_1_method_32_code
def yX11_share : MethodName := ⟨RX11, "share", "(IIII)I"⟩
abbrev cX11_price : ByteArray := prog_1_method_33_code
def yX11_price : MethodName := ⟨RX11, "price", "(IIII)I"⟩
abbrev cX11_change : ByteArray := prog_1_method_34_code
def yX11_change : MethodName := ⟨RX11, "change", "(II)I"⟩
abbrev cX11_weights : ByteArray := prog_1_method_35_code
def yX11_weights : MethodName := ⟨RX11, "weights", "(III)I"⟩
abbrev cX11_weight : ByteArray := prog_1_method_36_code
def yX11_weight : MethodName := ⟨RX11, "weight", "(I)I"⟩
abbrev cX11_gaps : ByteArray := prog_1_method_37_code
def yX11_gaps : MethodName := ⟨RX11, "gaps", "(I)I"⟩
abbrev cX11_bound : ByteArray := prog_1_method_38_code
def yX11_bound : MethodName := ⟨RX11, "bound", "(IIII)I"⟩
abbrev cX11_loss : ByteArray := prog_1_method_39_code
def yX11_loss : MethodName := ⟨RX11, "loss", "(II)I"⟩
abbrev cX11_fell : ByteArray := prog_1_method_40_code
def yX11_fell : MethodName := ⟨RX11, "fell", "(IIII)I"⟩
abbrev cX11_likes : ByteArray := prog_1_method_41_code
def yX11_likes : MethodName := ⟨RX11, "likes", "(II)I"⟩
abbrev cX11_outside : ByteArray := prog_1_method_42_code
def yX11_outside : MethodName := ⟨RX11, "outside", "(III)Z"⟩
abbrev cX11_badEntry : ByteArray := prog_1_method_43_code
def yX11_badEntry : MethodName := ⟨RX11, "badEntry", "(II)Z"⟩
abbrev cX11_noFamilyWeek : ByteArray := prog_1_method_44_code
def yX11_noFamilyWeek : MethodName := ⟨RX11, "noFamilyWeek", "(II)Z"⟩
abbrev cX11_noSpending : ByteArray := prog_1_method_45_code
def yX11_noSpending : MethodName := ⟨RX11, "noSpending", "(IIII)Z"⟩
abbrev cX11_tellFraction : ByteArray := prog_1_method_46_code
def yX11_tellFraction : MethodName := ⟨RX11, "tellFraction", "(JJ)I"⟩
abbrev cX11_commonDivisor : ByteArray := prog_1_method_47_code
def yX11_commonDivisor : MethodName := ⟨RX11, "commonDivisor", "(JJ)J"⟩
def RX12 : String := "PennyBooksModel"
def TX12 : u_T := fun k => match k with
  | 0 => ("PennyBooksModel", "status", "I", false)
  | 1 => ("PennyBooksModel", "top", "J", false)
  | 2 => ("PennyBooksModel", "bottom", "J", false)
  | 3 => ("PennyBooksModel", "sort", "[I", true)
  | 4 => ("PennyBooksModel", "many", "[I", true)
  | 5 => ("PennyBooksModel", "trays", "[J", true)
  | 6 => ("PennyBooksModel", "families", "I", false)
  | 7 => ("PennyBooksModel", "lines", "I", false)
  | 8 => ("PennyBooksModel", "readings", "I", false)
  | 9 => ("PennyBooksModel", "latest", "I", false)
  | 10 => ("PennyBooksModel", "asof", "I", false)
  | 11 => ("PennyBooksModel", "hasWords", "Z", false)
  | 12 => ("PennyBooksModel", "fClass", "[I", true)
  | 13 => ("PennyBooksModel", "fLand", "[I", true)
  | 14 => ("PennyBooksModel", "lFamily", "[I", true)
  | 15 => ("PennyBooksModel", "lWeek", "[I", true)
  | 16 => ("PennyBooksModel", "lShop", "[I", true)
  | 17 => ("PennyBooksModel", "lPence", "[I", true)
  | 18 => ("PennyBooksModel", "lHand", "[I", true)
  | 19 => ("PennyBooksModel", "lKnown", "[I", true)
  | 20 => ("PennyBooksModel", "rLine", "[I", true)
  | 21 => ("PennyBooksModel", "rPence", "[I", true)
  | 22 => ("PennyBooksModel", "rKnown", "[I", true)
  | 23 => ("PennyBooksModel", "lWord", "[J", true)
  | 24 => ("PennyBooksModel", "nextWord", "[J", true)
  | 25 => ("PennyBooksModel", "isCame", "[Z", true)
  | 26 => ("PennyBooksModel", "tape", "[B", true)
  | 27 => ("PennyBooksModel", "text", "[B", true)
  | 28 => ("PennyBooksModel", "taped", "I", false)
  | 29 => ("PennyBooksModel", "size", "I", false)
  | 30 => ("PennyBooksModel", "token", "I", false)
  | 31 => ("PennyBooksModel", "from", "I", false)
  | 32 => ("PennyBooksModel", "end", "I", false)
  | 33 => ("PennyBooksModel", "value", "I", false)
  | 34 => ("PennyBooksModel", "faultKind", "I", false)
  | 35 => ("PennyBooksModel", "faultPlace", "I", false)
  | 36 => ("PennyBooksModel", "faults", "I", false)
  | 37 => ("PennyBooksModel", "editions", "I", false)
  | 38 => ("PennyBooksModel", "signs", "I", false)
  | 39 => ("PennyBooksModel", "ones", "I", false)
  | 40 => ("PennyBooksModel", "eRules", "[I", true)
  | 41 => ("PennyBooksModel", "testFrom", "[I", true)
  | 42 => ("PennyBooksModel", "testTo", "[I", true)
  | 43 => ("PennyBooksModel", "kindFrom", "[I", true)
  | 44 => ("PennyBooksModel", "kindTo", "[I", true)
  | 45 => ("PennyBooksModel", "unitsTo", "[I", true)
  | 46 => ("PennyBooksModel", "oneKind", "[I", true)
  | 47 => ("PennyBooksModel", "leftFrom", "[I", true)
  | 48 => ("PennyBooksModel", "leftTo", "[I", true)
  | 49 => ("PennyBooksModel", "rightTo", "[I", true)
  | 50 => ("PennyBooksModel", "compares", "[I", true)
  | 51 => ("PennyBooksModel", "oneWord", "[J", true)
  | 52 => ("PennyBooksModel", "isNot", "[Z", true)
  | 53 => ("PennyBooksModel", "begins", "[Z", true)
  | 54 => ("PennyBooksModel", "sign", "[I", true)
  | 55 => ("PennyBooksModel", "signOf", "[I", true)
  | 56 => ("PennyBooksModel", "waitsSum", "[I", true)
  | 57 => ("PennyBooksModel", "waitsItem", "[I", true)
  | 58 => ("PennyBooksModel", "faultRules", "I", false)
  | 59 => ("PennyBooksModel", "variables", "[J", true)
  | 60 => ("PennyBooksModel", "stack", "[J", true)
  | 61 => ("PennyBooksModel", "itsRule", "I", false)
  | 62 => ("PennyBooksModel", "itsKind", "I", false)
  | 63 => ("PennyBooksModel", "itsUnits", "I", false)
  | 64 => ("PennyBooksModel", "tFamily", "[I", true)
  | 65 => ("PennyBooksModel", "tWeek", "[I", true)
  | 66 => ("PennyBooksModel", "tSum", "[I", true)
  | 67 => ("PennyBooksModel", "tolds", "I", false)
  | 68 => ("PennyBooksModel", "weekLine", "[I", true)
  | 69 => ("PennyBooksModel", "slip", "[I", true)
  | 70 => ("PennyBooksModel", "firstSlip", "[I", true)
  | 71 => ("PennyBooksModel", "weekMany", "I", false)
  | 72 => ("PennyBooksModel", "outBy", "I", false)
  | 73 => ("PennyBooksModel", "few", "I", false)
  | 74 => ("PennyBooksModel", "rivals", "I", false)
  | 75 => ("PennyBooksModel", "firstCarry", "I", false)
  | 76 => ("PennyBooksModel", "near", "I", false)
  | 77 => ("PennyBooksModel", "shut", "I", false)
  | 78 => ("PennyBooksModel", "price", "[I", true)
  | 79 => ("PennyBooksModel", "most", "[I", true)
  | 80 => ("PennyBooksModel", "unitsIn", "[I", true)
  | 81 => ("PennyBooksModel", "manyWays", "[J", true)
  | 82 => ("PennyBooksModel", "fewer", "[J", true)
  | 83 => ("PennyBooksModel", "thingAway", "[I", true)
  | 84 => ("PennyBooksModel", "thingWeek", "[I", true)
  | 85 => ("PennyBooksModel", "members", "I", false)
  | 86 => ("PennyBooksModel", "mFamily", "[I", true)
  | 87 => ("PennyBooksModel", "mBorn", "[I", true)
  | 88 => ("PennyBooksModel", "mFrom", "[I", true)
  | 89 => ("PennyBooksModel", "mTo", "[I", true)
  | 90 => ("PennyBooksModel", "mouth", "[I", true)
  | 91 => ("PennyBooksModel", "pricePence", "[I", true)
  | 92 => ("PennyBooksModel", "priceUnits", "[I", true)
  | 93 => ("PennyBooksModel", "handMany", "[I", true)
  | 94 => ("PennyBooksModel", "weight", "[I", true)
  | 95 => ("PennyBooksModel", "foundWeight", "[I", true)
  | 96 => ("PennyBooksModel", "has", "[I", true)
  | 97 => ("PennyBooksModel", "weighed", "I", false)
  | 98 => ("PennyBooksModel", "losses", "I", false)
  | 99 => ("PennyBooksModel", "oFamily", "[I", true)
  | _ => ("PennyBooksModel", "oWeek", "[I", true)
def tyX12 : Nat → FieldType := fun k => match k with
  | 0 => .int
  | 1 => .long
  | 2 => .long
  | 3 => .array .int
  | 4 => .array .int
  | 5 => .array .long
  | 6 => .int
  | 7 => .int
  | 8 => .int
  | 9 => .int
  | 10 => .int
  | 11 => .boolean
  | 12 => .array .int
  | 13 => .array .int
  | 14 => .array .int
  | 15 => .array .int
  | 16 => .array .int
  | 17 => .array .int
  | 18 => .array .int
  | 19 => .array .int
  | 20 => .array .int
  | 21 => .array .int
  | 22 => .array .int
  | 23 => .array .long
  | 24 => .array .long
  | 25 => .array .boolean
  | 26 => .array .byte
  | 27 => .array .byte
  | 28 => .int
  | 29 => .int
  | 30 => .int
  | 31 => .int
  | 32 => .int
  | 33 => .int
  | 34 => .int
  | 35 => .int
  | 36 => .int
  | 37 => .int
  | 38 => .int
  | 39 => .int
  | 40 => .array .int
  | 41 => .array .int
  | 42 => .array .int
  | 43 => .array .int
  | 44 => .array .int
  | 45 => .array .int
  | 46 => .array .int
  | 47 => .array .int
  | 48 => .array .int
  | 49 => .array .int
  | 50 => .array .int
  | 51 => .array .long
  | 52 => .array .boolean
  | 53 => .array .boolean
  | 54 => .array .int
  | 55 => .array .int
  | 56 => .array .int
  | 57 => .array .int
  | 58 => .int
  | 59 => .array .long
  | 60 => .array .long
  | 61 => .int
  | 62 => .int
  | 63 => .int
  | 64 => .array .int
  | 65 => .array .int
  | 66 => .array .int
  | 67 => .int
  | 68 => .array .int
  | 69 => .array .int
  | 70 => .array .int
  | 71 => .int
  | 72 => .int
  | 73 => .int
  | 74 => .int
  | 75 => .int
  | 76 => .int
  | 77 => .int
  | 78 => .array .int
  | 79 => .array .int
  | 80 => .array .int
  | 81 => .array .long
  | 82 => .array .long
  | 83 => .array .int
  | 84 => .array .int
  | 85 => .int
  | 86 => .array .int
  | 87 => .array .int
  | 88 => .array .int
  | 89 => .array .int
  | 90 => .array .int
  | 91 => .array .int
  | 92 => .array .int
  | 93 => .array .int
  | 94 => .array .int
  | 95 => .array .int
  | 96 => .array .int
  | 97 => .int
  | 98 => .int
  | 99 => .array .int
  | _ => .array .int
abbrev wsX120 : List Cond := u_ws RX12 TX12 101
theorem nmX12 : ∀ a, a < 101 → ∀ b, b < 101 → a ≠ b → (TX12 a).2.1 ≠ (TX12 b).2.1 := by decide +kernel
theorem tyX12_ok : ∀ k, k < 101 → parseFieldDescriptor (TX12 k).2.2.1 = some (tyX12 k) := by decide +kernel
abbrev cX12_init : ByteArray := prog_14_method_1_code
def yX12_init : MethodName := ⟨RX12, "<init>", "()V"⟩
abbrev cX12_status : ByteArray := prog_14_method_2_code
def yX12_status : MethodName := ⟨RX12, "status", "()I"⟩
abbrev cX12_top : ByteArray := prog_14_method_3_code
def yX12_top : MethodName := ⟨RX12, "top", "()J"⟩
abbrev cX12_bottom : ByteArray := prog_14_method_4_code
def yX12_bottom : MethodName := ⟨RX12, "bottom", "()J"⟩
abbrev cX12_is : ByteArray := prog_14_method_5_code
def yX12_is : MethodName := ⟨RX12, "is", "(I)Z"⟩
abbrev cX12_refuse : ByteArray := prog_14_method_6_code
def yX12_refuse : MethodName := ⟨RX12, "refuse", "(I)I"⟩
abbrev cX12_gives : ByteArray := prog_14_method_7_code
def yX12_gives : MethodName := ⟨RX12, "gives", "(I)I"⟩
abbrev cX12_fraction : ByteArray := prog_14_method_8_code
def yX12_fraction : MethodName := ⟨RX12, "fraction", "(JJ)I"⟩
abbrev cX12_isTray : ByteArray := prog_14_method_9_code
def yX12_isTray : MethodName := ⟨RX12, "isTray", "(I)Z"⟩
abbrev cX12_cut : ByteArray := prog_14_method_10_code
def yX12_cut : MethodName := ⟨RX12, "cut", "(JI)J"⟩
abbrev cX12_tray : ByteArray := prog_14_method_11_code
def yX12_tray : MethodName := ⟨RX12, "tray", "(III)Z"⟩
abbrev cX12_wrongPlace : ByteArray := prog_14_method_12_code
def yX12_wrongPlace : MethodName := ⟨RX12, "wrongPlace", "(II)I"⟩
abbrev cX12_write : ByteArray := prog_14_method_13_code
def yX12_write : MethodName := ⟨RX12, "write", "(IIJ)Z"⟩
abbrev cX12_read : ByteArray := prog_14_method_14_code
def yX12_read : MethodName := ⟨RX12, "read", "(II)J"⟩
abbrev cX12_pour : ByteArray := prog_14_method_15_code
def yX12_pour : MethodName := ⟨RX12, "pour", "(IIIII)Z"⟩
abbrev cX12_isQuarter : ByteArray := prog_14_method_16_code
def yX12_isQuarter : MethodName := ⟨RX12, "isQuarter", "(I)Z"⟩
abbrev cX12_isWeek : ByteArray := prog_14_method_17_code
def yX12_isWeek : MethodName := ⟨RX12, "isWeek", "(I)Z"⟩
abbrev cX12_isDay : ByteArray := prog_14_method_18_code
def yX12_isDay : MethodName := ⟨RX12, "isDay", "(I)Z"⟩
abbrev cX12_isSum : ByteArray := prog_14_method_19_code
def yX12_isSum : MethodName := ⟨RX12, "isSum", "(I)Z"⟩
abbrev cX12_isFamily : ByteArray := prog_14_method_20_code
def yX12_isFamily : MethodName := ⟨RX12, "isFamily", "(I)Z"⟩
abbrev cX12_isLine : ByteArray := prog_14_method_21_code
def yX12_isLine : MethodName := ⟨RX12, "isLine", "(I)Z"⟩
abbrev cX12_family : ByteArray := prog_14_method_22_code
def yX12_family : MethodName := ⟨RX12, "family", "(II)I"⟩
abbrev cX12_isWord : ByteArray := prog_14_method_23_code
def yX12_isWord : MethodName := ⟨RX12, "isWord", "(J)Z"⟩
abbrev cX12_words : ByteArray := prog_14_method_24_code
def yX12_words : MethodName := ⟨RX12, "words", "(JJJ)Z"⟩
abbrev cX12_line : ByteArray := prog_14_method_25_code
def yX12_line : MethodName := ⟨RX12, "line", "(IIIIZII)I"⟩
abbrev cX12_reading : ByteArray := prog_14_method_26_code
def yX12_reading : MethodName := ⟨RX12, "reading", "(III)Z"⟩
abbrev cX12_asof : ByteArray := prog_14_method_27_code
def yX12_asof : MethodName := ⟨RX12, "asof", "(I)Z"⟩
abbrev cX12_isKnown : ByteArray := prog_14_method_28_code
def yX12_isKnown : MethodName := ⟨RX12, "isKnown", "(I)Z"⟩
abbrev cX12_penceOf : ByteArray := prog_14_method_29_code
def yX12_penceOf : MethodName := ⟨RX12, "penceOf", "(I)I"⟩
abbrev cX12_pence : ByteArray := prog_14_method_30_code
def yX12_pence : MethodName := ⟨RX12, "pence", "(I)I"⟩
abbrev cX12_went : ByteArray := prog_14_method_31_code
def yX12_went : MethodName := ⟨RX12, "went", "(II)Z"⟩
abbrev cX12_feed : ByteArray := prog_14_method_32_code
def yX12_feed : MethodName := ⟨RX12, "feed", "(IIIII)I"⟩
abbrev cX12_four : ByteArray := prog_14_method_33_code
def yX12_four : MethodName := ⟨RX12, "four", "(I)V"⟩
abbrev cX12_at : ByteArray := prog_14_method_34_code
def yX12_at : MethodName := ⟨RX12, "at", "(I)I"⟩
abbrev cX12_isSmall : ByteArray := prog_14_method_35_code
def yX12_isSmall : MethodName := ⟨RX12, "isSmall", "(I)Z"⟩
abbrev cX12_isDigit : ByteArray := prog_14_method_36_code
def yX12_isDigit : MethodName := ⟨RX12, "isDigit", "(I)Z"⟩
abbrev cX12_next : ByteArray := prog_14_method_37_code
def yX12_next : MethodName := ⟨RX12, "next", "()V"⟩
abbrev cX12_isSign : ByteArray := prog_14_method_38_code
def yX12_isSign : MethodName := ⟨RX12, "isSign", "(I)Z"⟩
abbrev cX12_inWords : ByteArray := prog_14_method_39_code
def yX12_inWords : MethodName := ⟨RX12, "inWords", "(Ljava/lang/String;)I"⟩
abbrev cX12_isKey : ByteArray := prog_14_method_40_code
def yX12_isKey : MethodName := ⟨RX12, "isKey", "(I)Z"⟩
abbrev cX12_fails : ByteArray := prog_14_method_41_code
def yX12_fails : MethodName := ⟨RX12, "fails", "(I)Z"⟩
abbrev cX12_wantKey : ByteArray := prog_14_method_42_code
def yX12_wantKey : MethodName := ⟨RX12, "wantKey", "(I)Z"⟩
abbrev cX12_puts : ByteArray := prog_14_method_43_code
def yX12_puts : MethodName := ⟨RX12, "puts", "(II)V"⟩
abbrev cX12_sum : ByteArray := prog_14_method_44_code
def yX12_sum : MethodName := ⟨RX12, "sum", "()Z"⟩
abbrev cX12_one : ByteArray := prog_14_method_45_code
def yX12_one : MethodName := ⟨RX12, "one", "(Z)Z"⟩
abbrev cX12_name : ByteArray := prog_14_method_46_code
def yX12_name : MethodName := ⟨RX12, "name", "(I)Z"⟩
abbrev cX12_comparing : ByteArray := prog_14_method_47_code
def yX12_comparing : MethodName := ⟨RX12, "comparing", "(I)Z"⟩
abbrev cX12_test : ByteArray := prog_14_method_48_code
def yX12_test : MethodName := ⟨RX12, "test", "()Z"⟩
abbrev cX12_rule : ByteArray := prog_14_method_49_code
def yX12_rule : MethodName := ⟨RX12, "rule", "()Z"⟩
abbrev cX12_edition : ByteArray := prog_14_method_50_code
def yX12_edition : MethodName := ⟨RX12, "edition", "(I)I"⟩
abbrev cX12_fault : ByteArray := prog_14_method_51_code
def yX12_fault : MethodName := ⟨RX12, "fault", "(I)I"⟩
abbrev cX12_work : ByteArray := prog_14_method_52_code
def yX12_work : MethodName := ⟨RX12, "work", "(II)J"⟩
abbrev cX12_isOne : ByteArray := prog_14_method_53_code
def yX12_isOne : MethodName := ⟨RX12, "isOne", "(II)Z"⟩
abbrev cX12_holds : ByteArray := prog_14_method_54_code
def yX12_holds : MethodName := ⟨RX12, "holds", "(III)Z"⟩
abbrev cX12_sortOut : ByteArray := prog_14_method_55_code
def yX12_sortOut : MethodName := ⟨RX12, "sortOut", "(II)V"⟩
abbrev cX12_kindOf : ByteArray := prog_14_method_56_code
def yX12_kindOf : MethodName := ⟨RX12, "kindOf", "(II)I"⟩
abbrev cX12_isEdition : ByteArray := prog_14_method_57_code
def yX12_isEdition : MethodName := ⟨RX12, "isEdition", "(I)Z"⟩
abbrev cX12_kind : ByteArray := prog_14_method_58_code
def yX12_kind : MethodName := ⟨RX12, "kind", "(III)I"⟩
abbrev cX12_moved : ByteArray := prog_14_method_59_code
def yX12_moved : MethodName := ⟨RX12, "moved", "(II)I"⟩
abbrev cX12_isKind : ByteArray := prog_14_method_60_code
def yX12_isKind : MethodName := ⟨RX12, "isKind", "(I)Z"⟩
abbrev cX12_spentOf : ByteArray := prog_14_method_61_code
def yX12_spentOf : MethodName := ⟨RX12, "spentOf", "(IIII)I"⟩
abbrev cX12_spent : ByteArray := prog_14_method_62_code
def yX12_spent : MethodName := ⟨RX12, "spent", "(IIII)I"⟩
abbrev cX12_toldOf : ByteArray := prog_14_method_63_code
def yX12_toldOf : MethodName := ⟨RX12, "toldOf", "(II)I"⟩
abbrev cX12_told : ByteArray := prog_14_method_64_code
def yX12_told : MethodName := ⟨RX12, "told", "(III)Z"⟩
abbrev cX12_out : ByteArray := prog_14_method_65_code
def yX12_out : MethodName := ⟨RX12, "out", "(II)I"⟩
abbrev cX12_brings : ByteArray := prog_14_method_66_code
def yX12_brings : MethodName := ⟨RX12, "brings", "(II)I"⟩
abbrev cX12_look : ByteArray := prog_14_method_67_code
def yX12_look : MethodName := ⟨RX12, "look", "(II)V"⟩
abbrev cX12_isEarlier : ByteArray := prog_14_method_68_code
def yX12_isEarlier : MethodName := ⟨RX12, "isEarlier", "(I)Z"⟩
abbrev cX12_slipsOf : ByteArray := prog_14_method_69_code
def yX12_slipsOf : MethodName := ⟨RX12, "slipsOf", "(II)V"⟩
abbrev cX12_third : ByteArray := prog_14_method_70_code
def yX12_third : MethodName := ⟨RX12, "third", "(II)V"⟩
abbrev cX12_explains : ByteArray := prog_14_method_71_code
def yX12_explains : MethodName := ⟨RX12, "explains", "(II)Z"⟩
abbrev cX12_slips : ByteArray := prog_14_method_72_code
def yX12_slips : MethodName := ⟨RX12, "slips", "(III)I"⟩
abbrev cX12_slip : ByteArray := prog_14_method_73_code
def yX12_slip : MethodName := ⟨RX12, "slip", "(I)I"⟩
abbrev cX12_rules : ByteArray := prog_14_method_74_code
def yX12_rules : MethodName := ⟨RX12, "rules", "(II)Z"⟩
abbrev cX12_things : ByteArray := prog_14_method_75_code
def yX12_things : MethodName := ⟨RX12, "things", "(II)V"⟩
abbrev cX12_count : ByteArray := prog_14_method_76_code
def yX12_count : MethodName := ⟨RX12, "count", "(I)V"⟩
abbrev cX12_wrongSundry : ByteArray := prog_14_method_77_code
def yX12_wrongSundry : MethodName := ⟨RX12, "wrongSundry", "(II)I"⟩
abbrev cX12_ways : ByteArray := prog_14_method_78_code
def yX12_ways : MethodName := ⟨RX12, "ways", "(II)J"⟩
abbrev cX12_span : ByteArray := prog_14_method_79_code
def yX12_span : MethodName := ⟨RX12, "span", "(IIII)I"⟩
abbrev cX12_member : ByteArray := prog_14_method_80_code
def yX12_member : MethodName := ⟨RX12, "member", "(IIII)Z"⟩
abbrev cX12_isPart : ByteArray := prog_14_method_81_code
def yX12_isPart : MethodName := ⟨RX12, "isPart", "(I)Z"⟩
abbrev cX12_scale : ByteArray := prog_14_method_82_code
def yX12_scale : MethodName := ⟨RX12, "scale", "(IIII)Z"⟩
abbrev cX12_mouthsOf : ByteArray := prog_14_method_83_code
def yX12_mouthsOf : MethodName := ⟨RX12, "mouthsOf", "(II)I"⟩
abbrev cX12_mouths : ByteArray := prog_14_method_84_code
def yX12_mouths : MethodName := ⟨RX12, "mouths", "(II)I"⟩
abbrev cX12_share : ByteArray := prog_14_method_85_code
def yX12_share : MethodName := ⟨RX12, "share", "(IIII)I"⟩
abbrev cX12_price : ByteArray := prog_14_method_86_code
def yX12_price : MethodName := ⟨RX12, "price", "(IIII)I"⟩
abbrev cX12_unlike : ByteArray := prog_14_method_87_code
def yX12_unlike : MethodName := ⟨RX12, "unlike", "(III)I"⟩
abbrev cX12_change : ByteArray := prog_14_method_88_code
def yX12_change : MethodName := ⟨RX12, "change", "(II)I"⟩
abbrev cX12_weights : ByteArray := prog_14_method_89_code
def yX12_weights : MethodName := ⟨RX12, "weights", "(III)I"⟩
abbrev cX12_weight : ByteArray := prog_14_method_90_code
def yX12_weight : MethodName := ⟨RX12, "weight", "(I)I"⟩
abbrev cX12_hasLine : ByteArray := prog_14_method_91_code
def yX12_hasLine : MethodName := ⟨RX12, "hasLine", "(II)Z"⟩
abbrev cX12_edge : ByteArray := prog_14_method_92_code
def yX12_edge : MethodName := ⟨RX12, "edge", "(IZ)I"⟩
abbrev cX12_isGap : ByteArray := prog_14_method_93_code
def yX12_isGap : MethodName := ⟨RX12, "isGap", "(II)Z"⟩
abbrev cX12_gaps : ByteArray := prog_14_method_94_code
def yX12_gaps : MethodName := ⟨RX12, "gaps", "(I)I"⟩
abbrev cX12_bound : ByteArray := prog_14_method_95_code
def yX12_bound : MethodName := ⟨RX12, "bound", "(IIII)I"⟩
abbrev cX12_loss : ByteArray := prog_14_method_96_code
def yX12_loss : MethodName := ⟨RX12, "loss", "(II)I"⟩
abbrev cX12_hasAll : ByteArray := prog_14_method_97_code
def yX12_hasAll : MethodName := ⟨RX12, "hasAll", "(III)Z"⟩
abbrev cX12_isLike : ByteArray := prog_14_method_98_code
def yX12_isLike : MethodName := ⟨RX12, "isLike", "(III)Z"⟩
abbrev cX12_differs : ByteArray := prog_14_method_99_code
def yX12_differs : MethodName := ⟨RX12, "differs", "(IIIII)J"⟩
abbrev cX12_areWeeks : ByteArray := prog_14_method_100_code
def yX12_areWeeks : MethodName := ⟨RX12, "areWeeks", "(II)Z"⟩
abbrev cX12_fell : ByteArray := prog_14_method_101_code
def yX12_fell : MethodName := ⟨RX12, "fell", "(IIII)I"⟩
abbrev cX12_likes : ByteArray := prog_14_method_102_code
def yX12_likes : MethodName := ⟨RX12, "likes", "(II)I"⟩
def RJ11 : String := "java/lang/Character"
def TJ11 : u_T := fun k => match k with
  | _ => ("", "", "", false)
def tyJ11 : Nat → FieldType := fun k => match k with
  | _ => .int
abbrev wsJ110 : List Cond := u_ws RJ11 TJ11 0
theorem nmJ11 : ∀ a, a < 0 → ∀ b, b < 0 → a ≠ b → (TJ11 a).2.1 ≠ (TJ11 b).2.1 := by decide +kernel
theorem tyJ11_ok : ∀ k, k < 0 → parseFieldDescriptor (TJ11 k).2.2.1 = some (tyJ11 k) := by decide +kernel
abbrev cJ11_isValidCodePoint_9a6ad : ByteArray := prog_15_method_11_code
def yJ11_isValidCodePoint_9a6ad : MethodName := ⟨RJ11, "isValidCodePoint", "(I)Z"⟩
abbrev cJ11_highSurrogate_5068e : ByteArray := prog_15_method_28_code
def yJ11_highSurrogate_5068e : MethodName := ⟨RJ11, "highSurrogate", "(I)C"⟩
abbrev cJ11_lowSurrogate_5068e : ByteArray := prog_15_method_29_code
def yJ11_lowSurrogate_5068e : MethodName := ⟨RJ11, "lowSurrogate", "(I)C"⟩
def RJ6 : String := "java/lang/Integer"
def TJ6 : u_T := fun k => match k with
  | _ => ("", "", "", false)
def tyJ6 : Nat → FieldType := fun k => match k with
  | _ => .int
abbrev wsJ60 : List Cond := u_ws RJ6 TJ6 0
theorem nmJ6 : ∀ a, a < 0 → ∀ b, b < 0 → a ≠ b → (TJ6 a).2.1 ≠ (TJ6 b).2.1 := by decide +kernel
theorem tyJ6_ok : ∀ k, k < 0 → parseFieldDescriptor (TJ6 k).2.2.1 = some (tyJ6 k) := by decide +kernel
abbrev cJ6_bitCount_0f7a4 : ByteArray := prog_16_method_49_code
def yJ6_bitCount_0f7a4 : MethodName := ⟨RJ6, "bitCount", "(I)I"⟩
def RJ13 : String := "java/lang/Long"
def TJ13 : u_T := fun k => match k with
  | _ => ("", "", "", false)
def tyJ13 : Nat → FieldType := fun k => match k with
  | _ => .int
abbrev wsJ130 : List Cond := u_ws RJ13 TJ13 0
theorem nmJ13 : ∀ a, a < 0 → ∀ b, b < 0 → a ≠ b → (TJ13 a).2.1 ≠ (TJ13 b).2.1 := by decide +kernel
theorem tyJ13_ok : ∀ k, k < 0 → parseFieldDescriptor (TJ13 k).2.2.1 = some (tyJ13 k) := by decide +kernel
abbrev cJ13_bitCount_95d88 : ByteArray := prog_17_method_50_code
def yJ13_bitCount_95d88 : MethodName := ⟨RJ13, "bitCount", "(J)I"⟩
def RJ9 : String := "java/lang/Math"
def TJ9 : u_T := fun k => match k with
  | _ => ("", "", "", false)
def tyJ9 : Nat → FieldType := fun k => match k with
  | _ => .int
abbrev wsJ90 : List Cond := u_ws RJ9 TJ9 0
theorem nmJ9 : ∀ a, a < 0 → ∀ b, b < 0 → a ≠ b → (TJ9 a).2.1 ≠ (TJ9 b).2.1 := by decide +kernel
theorem tyJ9_ok : ∀ k, k < 0 → parseFieldDescriptor (TJ9 k).2.2.1 = some (tyJ9 k) := by decide +kernel
abbrev cJ9_abs_0f7a4 : ByteArray := prog_18_method_59_code
def yJ9_abs_0f7a4 : MethodName := ⟨RJ9, "abs", "(I)I"⟩
abbrev cJ9_abs_067f4 : ByteArray := prog_18_method_61_code
def yJ9_abs_067f4 : MethodName := ⟨RJ9, "abs", "(J)J"⟩
abbrev cJ9_max_7cf53 : ByteArray := prog_18_method_65_code
def yJ9_max_7cf53 : MethodName := ⟨RJ9, "max", "(II)I"⟩
abbrev cJ9_max_f86c9 : ByteArray := prog_18_method_66_code
def yJ9_max_f86c9 : MethodName := ⟨RJ9, "max", "(JJ)J"⟩
abbrev cJ9_min_7cf53 : ByteArray := prog_18_method_69_code
def yJ9_min_7cf53 : MethodName := ⟨RJ9, "min", "(II)I"⟩
abbrev cJ9_min_f86c9 : ByteArray := prog_18_method_70_code
def yJ9_min_f86c9 : MethodName := ⟨RJ9, "min", "(JJ)J"⟩
def RJ0 : String := "java/lang/String"
def TJ0 : u_T := fun k => match k with
  | _ => ("", "", "", false)
def tyJ0 : Nat → FieldType := fun k => match k with
  | _ => .int
abbrev wsJ00 : List Cond := u_ws RJ0 TJ0 0
theorem nmJ0 : ∀ a, a < 0 → ∀ b, b < 0 → a ≠ b → (TJ0 a).2.1 ≠ (TJ0 b).2.1 := by decide +kernel
theorem tyJ0_ok : ∀ k, k < 0 → parseFieldDescriptor (TJ0 k).2.2.1 = some (tyJ0 k) := by decide +kernel
abbrev cJ0_length_8abf5 : ByteArray := prog_19_method_54_code
def yJ0_length_8abf5 : MethodName := ⟨RJ0, "length", "()I"⟩
abbrev cJ0_charAt_5068e : ByteArray := prog_19_method_56_code
def yJ0_charAt_5068e : MethodName := ⟨RJ0, "charAt", "(I)C"⟩
abbrev cJ0_indexOf_0f7a4 : ByteArray := prog_19_method_79_code
def yJ0_indexOf_0f7a4 : MethodName := ⟨RJ0, "indexOf", "(I)I"⟩
abbrev cJ0_indexOf_7cf53 : ByteArray := prog_19_method_80_code
def yJ0_indexOf_7cf53 : MethodName := ⟨RJ0, "indexOf", "(II)I"⟩
abbrev cJ0_coder_7d493 : ByteArray := prog_19_method_152_code
def yJ0_coder_7d493 : MethodName := ⟨RJ0, "coder", "()B"⟩
abbrev cJ0_isLatin1_aae02 : ByteArray := prog_19_method_154_code
def yJ0_isLatin1_aae02 : MethodName := ⟨RJ0, "isLatin1", "()Z"⟩
abbrev cJ0_checkIndex_df160 : ByteArray := prog_19_method_155_code
def yJ0_checkIndex_df160 : MethodName := ⟨RJ0, "checkIndex", "(II)V"⟩
abbrev cJ0_checkBoundsBeginEnd_23922 : ByteArray := prog_19_method_158_code
def yJ0_checkBoundsBeginEnd_23922 : MethodName := ⟨RJ0, "checkBoundsBeginEnd", "(III)V"⟩
def RJ1 : String := "java/lang/StringLatin1"
def TJ1 : u_T := fun k => match k with
  | _ => ("", "", "", false)
def tyJ1 : Nat → FieldType := fun k => match k with
  | _ => .int
abbrev wsJ10 : List Cond := u_ws RJ1 TJ1 0
theorem nmJ1 : ∀ a, a < 0 → ∀ b, b < 0 → a ≠ b → (TJ1 a).2.1 ≠ (TJ1 b).2.1 := by decide +kernel
theorem tyJ1_ok : ∀ k, k < 0 → parseFieldDescriptor (TJ1 k).2.2.1 = some (tyJ1 k) := by decide +kernel
abbrev cJ1_charAt_3b067 : ByteArray := prog_20_method_2_code
def yJ1_charAt_3b067 : MethodName := ⟨RJ1, "charAt", "([BI)C"⟩
abbrev cJ1_canEncode_9a6ad : ByteArray := prog_20_method_4_code
def yJ1_canEncode_9a6ad : MethodName := ⟨RJ1, "canEncode", "(I)Z"⟩
abbrev cJ1_indexOf_4cfef : ByteArray := prog_20_method_22_code
def yJ1_indexOf_4cfef : MethodName := ⟨RJ1, "indexOf", "([BIII)I"⟩
abbrev cJ1_indexOfChar_4cfef : ByteArray := prog_20_method_23_code
def yJ1_indexOfChar_4cfef : MethodName := ⟨RJ1, "indexOfChar", "([BIII)I"⟩
def RJ2 : String := "java/lang/StringUTF16"
def TJ2 : u_T := fun k => match k with
  | _ => ("", "", "", false)
def tyJ2 : Nat → FieldType := fun k => match k with
  | _ => .int
abbrev wsJ20 : List Cond := u_ws RJ2 TJ2 0
theorem nmJ2 : ∀ a, a < 0 → ∀ b, b < 0 → a ≠ b → (TJ2 a).2.1 ≠ (TJ2 b).2.1 := by decide +kernel
theorem tyJ2_ok : ∀ k, k < 0 → parseFieldDescriptor (TJ2 k).2.2.1 = some (tyJ2 k) := by decide +kernel
abbrev cJ2_getChar_3b067 : ByteArray := prog_21_method_5_code
def yJ2_getChar_3b067 : MethodName := ⟨RJ2, "getChar", "([BI)C"⟩
abbrev cJ2_length_9d52b : ByteArray := prog_21_method_6_code
def yJ2_length_9d52b : MethodName := ⟨RJ2, "length", "([B)I"⟩
abbrev cJ2_indexOf_4cfef : ByteArray := prog_21_method_40_code
def yJ2_indexOf_4cfef : MethodName := ⟨RJ2, "indexOf", "([BIII)I"⟩
abbrev cJ2_indexOfChar_4cfef : ByteArray := prog_21_method_47_code
def yJ2_indexOfChar_4cfef : MethodName := ⟨RJ2, "indexOfChar", "([BIII)I"⟩
abbrev cJ2_indexOfCharUnsafe_4cfef : ByteArray := prog_21_method_48_code
def yJ2_indexOfCharUnsafe_4cfef : MethodName := ⟨RJ2, "indexOfCharUnsafe", "([BIII)I"⟩
abbrev cJ2_indexOfSupplementary_4cfef : ByteArray := prog_21_method_49_code
def yJ2_indexOfSupplementary_4cfef : MethodName := ⟨RJ2, "indexOfSupplementary", "([BIII)I"⟩
abbrev cJ2_charAt_3b067 : ByteArray := prog_21_method_83_code
def yJ2_charAt_3b067 : MethodName := ⟨RJ2, "charAt", "([BI)C"⟩
abbrev cJ2_checkIndex_2214a : ByteArray := prog_21_method_91_code
def yJ2_checkIndex_2214a : MethodName := ⟨RJ2, "checkIndex", "(I[B)V"⟩
abbrev cJ2_checkBoundsBeginEnd_d044e : ByteArray := prog_21_method_93_code
def yJ2_checkBoundsBeginEnd_d044e : MethodName := ⟨RJ2, "checkBoundsBeginEnd", "(II[B)V"⟩
def RJ10 : String := "java/lang/System"
def TJ10 : u_T := fun k => match k with
  | _ => ("", "", "", false)
def tyJ10 : Nat → FieldType := fun k => match k with
  | _ => .int
abbrev wsJ100 : List Cond := u_ws RJ10 TJ10 0
theorem nmJ10 : ∀ a, a < 0 → ∀ b, b < 0 → a ≠ b → (TJ10 a).2.1 ≠ (TJ10 b).2.1 := by decide +kernel
theorem tyJ10_ok : ∀ k, k < 0 → parseFieldDescriptor (TJ10 k).2.2.1 = some (tyJ10 k) := by decide +kernel
def RJ7 : String := "java/util/Arrays"
def TJ7 : u_T := fun k => match k with
  | _ => ("", "", "", false)
def tyJ7 : Nat → FieldType := fun k => match k with
  | _ => .int
abbrev wsJ70 : List Cond := u_ws RJ7 TJ7 0
theorem nmJ7 : ∀ a, a < 0 → ∀ b, b < 0 → a ≠ b → (TJ7 a).2.1 ≠ (TJ7 b).2.1 := by decide +kernel
theorem tyJ7_ok : ∀ k, k < 0 → parseFieldDescriptor (TJ7 k).2.2.1 = some (tyJ7 k) := by decide +kernel
abbrev cJ7_rangeCheck_23922 : ByteArray := prog_23_method_30_code
def yJ7_rangeCheck_23922 : MethodName := ⟨RJ7, "rangeCheck", "(III)V"⟩
abbrev cJ7_fill_d0a16 : ByteArray := prog_23_method_101_code
def yJ7_fill_d0a16 : MethodName := ⟨RJ7, "fill", "([JJ)V"⟩
abbrev cJ7_fill_bad5a : ByteArray := prog_23_method_102_code
def yJ7_fill_bad5a : MethodName := ⟨RJ7, "fill", "([JIIJ)V"⟩
abbrev cJ7_fill_53178 : ByteArray := prog_23_method_103_code
def yJ7_fill_53178 : MethodName := ⟨RJ7, "fill", "([II)V"⟩
def RJ3 : String := "jdk/internal/util/Preconditions"
def TJ3 : u_T := fun k => match k with
  | _ => ("", "", "", false)
def tyJ3 : Nat → FieldType := fun k => match k with
  | _ => .int
abbrev wsJ30 : List Cond := u_ws RJ3 TJ3 0
theorem nmJ3 : ∀ a, a < 0 → ∀ b, b < 0 → a ≠ b → (TJ3 a).2.1 ≠ (TJ3 b).2.1 := by decide +kernel
theorem tyJ3_ok : ∀ k, k < 0 → parseFieldDescriptor (TJ3 k).2.2.1 = some (tyJ3 k) := by decide +kernel
abbrev cJ3_checkIndex_8e157 : ByteArray := prog_24_method_11_code
def yJ3_checkIndex_8e157 : MethodName := ⟨RJ3, "checkIndex", "(IILjava/util/function/BiFunction;)I"⟩
abbrev cJ3_checkFromToIndex_8c36e : ByteArray := prog_24_method_12_code
def yJ3_checkFromToIndex_8c36e : MethodName := ⟨RJ3, "checkFromToIndex", "(IIILjava/util/function/BiFunction;)I"⟩
def RL : String := "PennyBooksLaw"
abbrev cL_law : ByteArray := code
def yL_law : MethodName := ⟨RL, "law", "([I)Z"⟩
abbrev vwCl : List vw_C := [(RX0, TX0, 8), (RX1, TX1, 20), (RX2, TX2, 7), (RX3, TX3, 6), (RX4, TX4, 6), (RX5, TX5, 19), (RX6, TX6, 13), (RX7, TX7, 10), (RX8, TX8, 3), (RX9, TX9, 7), (RX10, TX10, 5), (RX11, TX11, 14), (RX12, TX12, 101)]
/-! the cells: arrays (kind, length), objects (class, fields) -/
abbrev pb_Sh : Type := (Nat × Nat) ⊕ (Nat × List (Nat ⊕ Bool))
def pb_sh : List pb_Sh := [
  .inr (11, [.inr true, .inr false, .inr false, .inl 1, .inl 5, .inl 21, .inl 25, .inl 31, .inl 39, .inl 45, .inl 51, .inl 54, .inl 57, .inl 61]),
  .inr (8, [.inl 2, .inl 3, .inl 4]),
  .inl (3, 240),
  .inl (0, 4),
  .inl (0, 4),
  .inr (1, [.inr true, .inl 6, .inl 7, .inr true, .inl 8, .inl 9, .inl 10, .inl 11, .inl 12, .inl 13, .inl 14, .inl 15, .inl 16, .inr true, .inl 17, .inl 18, .inl 19, .inl 20, .inr true, .inr true]),
  .inl (0, 12),
  .inl (0, 12),
  .inl (0, 200),
  .inl (0, 200),
  .inl (0, 200),
  .inl (0, 200),
  .inl (1, 200),
  .inl (0, 200),
  .inl (3, 600),
  .inl (0, 200),
  .inl (0, 200),
  .inl (0, 60),
  .inl (0, 60),
  .inl (0, 60),
  .inl (3, 3),
  .inr (5, [.inl 22, .inr true, .inr true, .inr true, .inr true, .inr true, .inr false, .inr true, .inr true, .inr true, .inl 23, .inr true, .inl 24, .inr true, .inr true, .inr true, .inr true, .inr true, .inr true]),
  .inl (2, 600),
  .inl (0, 32),
  .inl (3, 600),
  .inr (0, [.inl 5, .inr true, .inl 26, .inl 27, .inl 28, .inl 29, .inl 30, .inr true]),
  .inl (3, 3000),
  .inl (0, 5),
  .inl (0, 1000),
  .inl (0, 1000),
  .inl (3, 64),
  .inr (6, [.inl 5, .inr true, .inl 32, .inl 33, .inl 34, .inr true, .inl 35, .inl 36, .inl 37, .inl 38, .inr true, .inr true, .inr true]),
  .inl (0, 40),
  .inl (0, 40),
  .inl (0, 40),
  .inl (0, 9),
  .inl (0, 63),
  .inl (0, 9),
  .inl (0, 9),
  .inr (7, [.inl 5, .inl 25, .inr true, .inl 40, .inl 41, .inl 42, .inl 43, .inl 44, .inr true, .inr true]),
  .inl (0, 16),
  .inl (0, 16),
  .inl (0, 16),
  .inl (0, 1936),
  .inl (3, 2001),
  .inr (3, [.inr true, .inl 46, .inl 47, .inl 48, .inl 49, .inl 50]),
  .inl (0, 40),
  .inl (0, 40),
  .inl (0, 40),
  .inl (0, 40),
  .inl (0, 4),
  .inr (4, [.inl 5, .inl 25, .inr true, .inr true, .inl 52, .inl 53]),
  .inl (0, 200),
  .inl (0, 200),
  .inr (9, [.inl 5, .inl 55, .inl 56, .inr true, .inr true, .inr true, .inr true]),
  .inl (0, 8),
  .inl (0, 520),
  .inr (10, [.inl 5, .inr true, .inl 58, .inl 59, .inl 60]),
  .inl (0, 8),
  .inl (0, 8),
  .inl (0, 16),
  .inr (2, [.inl 5, .inl 25, .inr true, .inl 62, .inl 63, .inr false, .inr false]),
  .inl (0, 12),
  .inl (0, 12),
  .inr (12, [.inr true, .inr false, .inr false, .inl 65, .inl 66, .inl 67, .inr true, .inr true, .inr true, .inr true, .inr true, .inr true, .inl 68, .inl 69, .inl 70, .inl 71, .inl 72, .inl 73, .inl 74, .inl 75, .inl 76, .inl 77, .inl 78, .inl 79, .inl 80, .inl 81, .inl 82, .inl 83, .inr true, .inr true, .inr true, .inr true, .inr true, .inr true, .inr true, .inr true, .inr true, .inr true, .inr true, .inr true, .inl 84, .inl 85, .inl 86, .inl 87, .inl 88, .inl 89, .inl 90, .inl 91, .inl 92, .inl 93, .inl 94, .inl 95, .inl 96, .inl 97, .inl 98, .inl 99, .inl 100, .inl 101, .inr true, .inl 102, .inl 103, .inr true, .inr true, .inr true, .inl 104, .inl 105, .inl 106, .inr true, .inl 107, .inl 108, .inl 109, .inr true, .inr true, .inr true, .inr true, .inr true, .inr true, .inr true, .inl 110, .inl 111, .inl 112, .inl 113, .inl 114, .inl 115, .inl 116, .inr true, .inl 117, .inl 118, .inl 119, .inl 120, .inl 121, .inl 122, .inl 123, .inl 124, .inl 125, .inl 126, .inl 127, .inr true, .inr true, .inl 128, .inl 129]),
  .inl (0, 4),
  .inl (0, 4),
  .inl (3, 240),
  .inl (0, 12),
  .inl (0, 12),
  .inl (0, 200),
  .inl (0, 200),
  .inl (0, 200),
  .inl (0, 200),
  .inl (0, 200),
  .inl (0, 200),
  .inl (0, 60),
  .inl (0, 60),
  .inl (0, 60),
  .inl (3, 600),
  .inl (3, 3),
  .inl (1, 200),
  .inl (2, 600),
  .inl (2, 600),
  .inl (0, 6),
  .inl (0, 186),
  .inl (0, 186),
  .inl (0, 186),
  .inl (0, 186),
  .inl (0, 186),
  .inl (0, 1500),
  .inl (0, 1500),
  .inl (0, 1500),
  .inl (0, 1500),
  .inl (0, 1500),
  .inl (3, 1500),
  .inl (1, 1500),
  .inl (1, 1500),
  .inl (0, 4000),
  .inl (0, 4000),
  .inl (0, 8),
  .inl (0, 8),
  .inl (3, 4),
  .inl (3, 700),
  .inl (0, 40),
  .inl (0, 40),
  .inl (0, 40),
  .inl (0, 200),
  .inl (0, 9),
  .inl (0, 9),
  .inl (0, 16),
  .inl (0, 16),
  .inl (0, 8320),
  .inl (3, 2001),
  .inl (3, 2001),
  .inl (0, 16),
  .inl (0, 16),
  .inl (0, 40),
  .inl (0, 40),
  .inl (0, 40),
  .inl (0, 40),
  .inl (0, 4),
  .inl (0, 200),
  .inl (0, 200),
  .inl (0, 8),
  .inl (0, 8),
  .inl (0, 8),
  .inl (0, 8),
  .inl (0, 12),
  .inl (0, 12)]
def pb_strs : List (List Int32) := [[59, 60, 62, 61, 43, 45, 42, 47, 40, 41], [32, 105, 102, 32, 116, 104, 101, 110, 32, 107, 105, 110, 100, 32, 117, 110, 105, 116, 115, 32, 111, 114, 32, 97, 110, 100, 32, 110, 111, 116, 32, 119, 111, 114, 100, 32, 99, 97, 109, 101, 32], [32, 112, 101, 110, 99, 101, 32, 119, 101, 101, 107, 32, 121, 101, 97, 114, 32, 115, 104, 111, 112, 32]]
def pb_srefs : List (String × Nat × String × Nat) := [(RX5, 94, ";<>=+-*/()", 0), (RX12, 358, " if then kind units or and not word came ", 1), (RX12, 379, " pence week year shop ", 2)]
def pb_keys : List Int64 := [294, 663726, 370116, 22488723, 498, 1476, 14836, 769604, 99749, 16955493, 758955, 824370, 631280]
