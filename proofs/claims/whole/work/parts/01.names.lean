-- ===== PART A: goes FIRST, ahead of the names: the tables' words, and 'selects' of the private methods out of them =====
/-- a private method of a class that the tables say can be made, by its rows of tables_1 -/
def lw_okq (q : MethodName × Nat) : Prop := (q.1.cls ≠ "java/lang/invoke/MethodHandle" ∧ q.1.cls ≠ "java/lang/invoke/VarHandle") ∧ Cond.instantiable q.1.cls q.2 ∈ tables_1 ∧ Cond.privateMethod q.1 ∈ tables_1 ∧ Cond.instanceMethod q.1 ∈ tables_1
theorem lw_p0 : lw_okq (⟨"ResidueCover", "deny", "(I)Z"⟩, 17) := ⟨⟨by decide +kernel, by decide +kernel⟩, List.mem_of_getElem? (i := 24) (by decide +kernel), List.mem_of_getElem? (i := 381) (by decide +kernel), List.mem_of_getElem? (i := 382) (by decide +kernel)⟩
theorem lw_p1 : lw_okq (⟨"ResidueCover", "agree", "()Z"⟩, 17) := ⟨⟨by decide +kernel, by decide +kernel⟩, List.mem_of_getElem? (i := 24) (by decide +kernel), List.mem_of_getElem? (i := 392) (by decide +kernel), List.mem_of_getElem? (i := 393) (by decide +kernel)⟩
theorem lw_p2 : lw_okq (⟨"ResidueCover", "placeTrouble", "(II)I"⟩, 17) := ⟨⟨by decide +kernel, by decide +kernel⟩, List.mem_of_getElem? (i := 24) (by decide +kernel), List.mem_of_getElem? (i := 400) (by decide +kernel), List.mem_of_getElem? (i := 401) (by decide +kernel)⟩
theorem lw_p3 : lw_okq (⟨"ResidueCover", "trayTrouble", "(I)I"⟩, 17) := ⟨⟨by decide +kernel, by decide +kernel⟩, List.mem_of_getElem? (i := 24) (by decide +kernel), List.mem_of_getElem? (i := 404) (by decide +kernel), List.mem_of_getElem? (i := 405) (by decide +kernel)⟩
theorem lw_p4 : lw_okq (⟨"ResidueCover$Tray", "cut", "(J)J"⟩, 3) := ⟨⟨by decide +kernel, by decide +kernel⟩, List.mem_of_getElem? (i := 290) (by decide +kernel), List.mem_of_getElem? (i := 421) (by decide +kernel), List.mem_of_getElem? (i := 422) (by decide +kernel)⟩
theorem lw_p5 : lw_okq (⟨"ResidueCover", "refuse", "(I)I"⟩, 17) := ⟨⟨by decide +kernel, by decide +kernel⟩, List.mem_of_getElem? (i := 24) (by decide +kernel), List.mem_of_getElem? (i := 429) (by decide +kernel), List.mem_of_getElem? (i := 430) (by decide +kernel)⟩
theorem lw_p6 : lw_okq (⟨"ResidueCover", "pourTrouble", "(IIIII)I"⟩, 17) := ⟨⟨by decide +kernel, by decide +kernel⟩, List.mem_of_getElem? (i := 24) (by decide +kernel), List.mem_of_getElem? (i := 442) (by decide +kernel), List.mem_of_getElem? (i := 443) (by decide +kernel)⟩
theorem lw_p7 : lw_okq (⟨"ResidueCover$Reader", "skipBlanks", "(I)I"⟩, 11) := ⟨⟨by decide +kernel, by decide +kernel⟩, List.mem_of_getElem? (i := 34) (by decide +kernel), List.mem_of_getElem? (i := 471) (by decide +kernel), List.mem_of_getElem? (i := 472) (by decide +kernel)⟩
theorem lw_p8 : lw_okq (⟨"ResidueCover$Reader", "findToken", "(I)I"⟩, 11) := ⟨⟨by decide +kernel, by decide +kernel⟩, List.mem_of_getElem? (i := 34) (by decide +kernel), List.mem_of_getElem? (i := 475) (by decide +kernel), List.mem_of_getElem? (i := 476) (by decide +kernel)⟩
theorem lw_p9 : lw_okq (⟨"ResidueCover$Reader", "findWord", "(I)I"⟩, 11) := ⟨⟨by decide +kernel, by decide +kernel⟩, List.mem_of_getElem? (i := 34) (by decide +kernel), List.mem_of_getElem? (i := 482) (by decide +kernel), List.mem_of_getElem? (i := 483) (by decide +kernel)⟩
theorem lw_p10 : lw_okq (⟨"ResidueCover$Reader", "wordSort", "(II)I"⟩, 11) := ⟨⟨by decide +kernel, by decide +kernel⟩, List.mem_of_getElem? (i := 34) (by decide +kernel), List.mem_of_getElem? (i := 488) (by decide +kernel), List.mem_of_getElem? (i := 489) (by decide +kernel)⟩
theorem lw_p11 : lw_okq (⟨"ResidueCover$Reader", "isKeptWord", "(III)Z"⟩, 11) := ⟨⟨by decide +kernel, by decide +kernel⟩, List.mem_of_getElem? (i := 34) (by decide +kernel), List.mem_of_getElem? (i := 503) (by decide +kernel), List.mem_of_getElem? (i := 504) (by decide +kernel)⟩
theorem lw_p12 : lw_okq (⟨"ResidueCover$Reader", "keep", "(IIJ)V"⟩, 11) := ⟨⟨by decide +kernel, by decide +kernel⟩, List.mem_of_getElem? (i := 34) (by decide +kernel), List.mem_of_getElem? (i := 545) (by decide +kernel), List.mem_of_getElem? (i := 546) (by decide +kernel)⟩
theorem lw_p13 : lw_okq (⟨"ResidueCover$Reader", "findNumber", "(I)I"⟩, 11) := ⟨⟨by decide +kernel, by decide +kernel⟩, List.mem_of_getElem? (i := 34) (by decide +kernel), List.mem_of_getElem? (i := 552) (by decide +kernel), List.mem_of_getElem? (i := 553) (by decide +kernel)⟩
theorem lw_p14 : lw_okq (⟨"ResidueCover", "answer", "(I)I"⟩, 17) := ⟨⟨by decide +kernel, by decide +kernel⟩, List.mem_of_getElem? (i := 24) (by decide +kernel), List.mem_of_getElem? (i := 625) (by decide +kernel), List.mem_of_getElem? (i := 626) (by decide +kernel)⟩
theorem lw_p15 : lw_okq (⟨"ResidueCover", "toldBySpan", "(I)I"⟩, 17) := ⟨⟨by decide +kernel, by decide +kernel⟩, List.mem_of_getElem? (i := 24) (by decide +kernel), List.mem_of_getElem? (i := 695) (by decide +kernel), List.mem_of_getElem? (i := 696) (by decide +kernel)⟩
def lw_privs_1 : List (MethodName × Nat) := [(⟨"ResidueCover", "deny", "(I)Z"⟩, 17), (⟨"ResidueCover", "agree", "()Z"⟩, 17), (⟨"ResidueCover", "placeTrouble", "(II)I"⟩, 17), (⟨"ResidueCover", "trayTrouble", "(I)I"⟩, 17), (⟨"ResidueCover$Tray", "cut", "(J)J"⟩, 3), (⟨"ResidueCover", "refuse", "(I)I"⟩, 17), (⟨"ResidueCover", "pourTrouble", "(IIIII)I"⟩, 17), (⟨"ResidueCover$Reader", "skipBlanks", "(I)I"⟩, 11), (⟨"ResidueCover$Reader", "findToken", "(I)I"⟩, 11), (⟨"ResidueCover$Reader", "findWord", "(I)I"⟩, 11), (⟨"ResidueCover$Reader", "wordSort", "(II)I"⟩, 11), (⟨"ResidueCover$Reader", "isKeptWord", "(III)Z"⟩, 11), (⟨"ResidueCover$Reader", "keep", "(IIJ)V"⟩, 11), (⟨"ResidueCover$Reader", "findNumber", "(I)I"⟩, 11), (⟨"ResidueCover", "answer", "(I)I"⟩, 17), (⟨"ResidueCover", "toldBySpan", "(I)I"⟩, 17)]
theorem lw_r1 : ∀ q ∈ lw_privs_1, lw_okq q := List.forall_mem_cons.mpr ⟨lw_p0, List.forall_mem_cons.mpr ⟨lw_p1, List.forall_mem_cons.mpr ⟨lw_p2, List.forall_mem_cons.mpr ⟨lw_p3, List.forall_mem_cons.mpr ⟨lw_p4, List.forall_mem_cons.mpr ⟨lw_p5, List.forall_mem_cons.mpr ⟨lw_p6, List.forall_mem_cons.mpr ⟨lw_p7, List.forall_mem_cons.mpr ⟨lw_p8, List.forall_mem_cons.mpr ⟨lw_p9, List.forall_mem_cons.mpr ⟨lw_p10, List.forall_mem_cons.mpr ⟨lw_p11, List.forall_mem_cons.mpr ⟨lw_p12, List.forall_mem_cons.mpr ⟨lw_p13, List.forall_mem_cons.mpr ⟨lw_p14, List.forall_mem_cons.mpr ⟨lw_p15, fun _ h => absurd h List.not_mem_nil⟩⟩⟩⟩⟩⟩⟩⟩⟩⟩⟩⟩⟩⟩⟩⟩
theorem lw_p16 : lw_okq (⟨"ResidueCover", "sieved", "()Z"⟩, 17) := ⟨⟨by decide +kernel, by decide +kernel⟩, List.mem_of_getElem? (i := 24) (by decide +kernel), List.mem_of_getElem? (i := 699) (by decide +kernel), List.mem_of_getElem? (i := 700) (by decide +kernel)⟩
theorem lw_p17 : lw_okq (⟨"ResidueCover$Sieve", "lay", "(II)V"⟩, 5) := ⟨⟨by decide +kernel, by decide +kernel⟩, List.mem_of_getElem? (i := 176) (by decide +kernel), List.mem_of_getElem? (i := 725) (by decide +kernel), List.mem_of_getElem? (i := 726) (by decide +kernel)⟩
theorem lw_p18 : lw_okq (⟨"ResidueCover$Sieve", "openIn", "(I)J"⟩, 5) := ⟨⟨by decide +kernel, by decide +kernel⟩, List.mem_of_getElem? (i := 176) (by decide +kernel), List.mem_of_getElem? (i := 738) (by decide +kernel), List.mem_of_getElem? (i := 739) (by decide +kernel)⟩
theorem lw_p19 : lw_okq (⟨"ResidueCover$Classes", "touches", "(III)Z"⟩, 6) := ⟨⟨by decide +kernel, by decide +kernel⟩, List.mem_of_getElem? (i := 80) (by decide +kernel), List.mem_of_getElem? (i := 765) (by decide +kernel), List.mem_of_getElem? (i := 766) (by decide +kernel)⟩
theorem lw_p20 : lw_okq (⟨"ResidueCover$Classes", "takes", "(II)Z"⟩, 6) := ⟨⟨by decide +kernel, by decide +kernel⟩, List.mem_of_getElem? (i := 80) (by decide +kernel), List.mem_of_getElem? (i := 798) (by decide +kernel), List.mem_of_getElem? (i := 799) (by decide +kernel)⟩
theorem lw_p21 : lw_okq (⟨"ResidueCover", "answerOrNone", "(I)I"⟩, 17) := ⟨⟨by decide +kernel, by decide +kernel⟩, List.mem_of_getElem? (i := 24) (by decide +kernel), List.mem_of_getElem? (i := 810) (by decide +kernel), List.mem_of_getElem? (i := 811) (by decide +kernel)⟩
theorem lw_p22 : lw_okq (⟨"ResidueCover$Classes", "firstLike", "(II)I"⟩, 6) := ⟨⟨by decide +kernel, by decide +kernel⟩, List.mem_of_getElem? (i := 80) (by decide +kernel), List.mem_of_getElem? (i := 886) (by decide +kernel), List.mem_of_getElem? (i := 887) (by decide +kernel)⟩
theorem lw_p23 : lw_okq (⟨"ResidueCover", "tell", "(JJ)Z"⟩, 17) := ⟨⟨by decide +kernel, by decide +kernel⟩, List.mem_of_getElem? (i := 24) (by decide +kernel), List.mem_of_getElem? (i := 915) (by decide +kernel), List.mem_of_getElem? (i := 916) (by decide +kernel)⟩
theorem lw_p24 : lw_okq (⟨"ResidueCover$Sieve", "findFailing", "(LResidueCover$Classes;I)V"⟩, 5) := ⟨⟨by decide +kernel, by decide +kernel⟩, List.mem_of_getElem? (i := 176) (by decide +kernel), List.mem_of_getElem? (i := 961) (by decide +kernel), List.mem_of_getElem? (i := 962) (by decide +kernel)⟩
theorem lw_p25 : lw_okq (⟨"ResidueCover$Sieve", "comesAgainBy", "(I)Z"⟩, 5) := ⟨⟨by decide +kernel, by decide +kernel⟩, List.mem_of_getElem? (i := 176) (by decide +kernel), List.mem_of_getElem? (i := 1006) (by decide +kernel), List.mem_of_getElem? (i := 1007) (by decide +kernel)⟩
theorem lw_p26 : lw_okq (⟨"ResidueCover", "choiceTrouble", "(III)I"⟩, 17) := ⟨⟨by decide +kernel, by decide +kernel⟩, List.mem_of_getElem? (i := 24) (by decide +kernel), List.mem_of_getElem? (i := 1043) (by decide +kernel), List.mem_of_getElem? (i := 1044) (by decide +kernel)⟩
theorem lw_p27 : lw_okq (⟨"ResidueCover$Choices", "begin", "(I)V"⟩, 6) := ⟨⟨by decide +kernel, by decide +kernel⟩, List.mem_of_getElem? (i := 223) (by decide +kernel), List.mem_of_getElem? (i := 1065) (by decide +kernel), List.mem_of_getElem? (i := 1066) (by decide +kernel)⟩
theorem lw_p28 : lw_okq (⟨"ResidueCover$Choices", "isAllCaught", "(I)Z"⟩, 6) := ⟨⟨by decide +kernel, by decide +kernel⟩, List.mem_of_getElem? (i := 223) (by decide +kernel), List.mem_of_getElem? (i := 1074) (by decide +kernel), List.mem_of_getElem? (i := 1075) (by decide +kernel)⟩
theorem lw_p29 : lw_okq (⟨"ResidueCover$Choices", "lay", "(II)Z"⟩, 6) := ⟨⟨by decide +kernel, by decide +kernel⟩, List.mem_of_getElem? (i := 223) (by decide +kernel), List.mem_of_getElem? (i := 1080) (by decide +kernel), List.mem_of_getElem? (i := 1081) (by decide +kernel)⟩
theorem lw_p30 : lw_okq (⟨"ResidueCover$Life", "follow", "(LResidueCover$Classes;LResidueCover$Days;ILResidueCover$Sieve;)I"⟩, 9) := ⟨⟨by decide +kernel, by decide +kernel⟩, List.mem_of_getElem? (i := 250) (by decide +kernel), List.mem_of_getElem? (i := 1144) (by decide +kernel), List.mem_of_getElem? (i := 1145) (by decide +kernel)⟩
theorem lw_p31 : lw_okq (⟨"ResidueCover$Life", "behindEnd", "(LResidueCover$Days;I)I"⟩, 9) := ⟨⟨by decide +kernel, by decide +kernel⟩, List.mem_of_getElem? (i := 250) (by decide +kernel), List.mem_of_getElem? (i := 1148) (by decide +kernel), List.mem_of_getElem? (i := 1149) (by decide +kernel)⟩
def lw_privs_2 : List (MethodName × Nat) := [(⟨"ResidueCover", "sieved", "()Z"⟩, 17), (⟨"ResidueCover$Sieve", "lay", "(II)V"⟩, 5), (⟨"ResidueCover$Sieve", "openIn", "(I)J"⟩, 5), (⟨"ResidueCover$Classes", "touches", "(III)Z"⟩, 6), (⟨"ResidueCover$Classes", "takes", "(II)Z"⟩, 6), (⟨"ResidueCover", "answerOrNone", "(I)I"⟩, 17), (⟨"ResidueCover$Classes", "firstLike", "(II)I"⟩, 6), (⟨"ResidueCover", "tell", "(JJ)Z"⟩, 17), (⟨"ResidueCover$Sieve", "findFailing", "(LResidueCover$Classes;I)V"⟩, 5), (⟨"ResidueCover$Sieve", "comesAgainBy", "(I)Z"⟩, 5), (⟨"ResidueCover", "choiceTrouble", "(III)I"⟩, 17), (⟨"ResidueCover$Choices", "begin", "(I)V"⟩, 6), (⟨"ResidueCover$Choices", "isAllCaught", "(I)Z"⟩, 6), (⟨"ResidueCover$Choices", "lay", "(II)Z"⟩, 6), (⟨"ResidueCover$Life", "follow", "(LResidueCover$Classes;LResidueCover$Days;ILResidueCover$Sieve;)I"⟩, 9), (⟨"ResidueCover$Life", "behindEnd", "(LResidueCover$Days;I)I"⟩, 9)]
theorem lw_r2 : ∀ q ∈ lw_privs_2, lw_okq q := List.forall_mem_cons.mpr ⟨lw_p16, List.forall_mem_cons.mpr ⟨lw_p17, List.forall_mem_cons.mpr ⟨lw_p18, List.forall_mem_cons.mpr ⟨lw_p19, List.forall_mem_cons.mpr ⟨lw_p20, List.forall_mem_cons.mpr ⟨lw_p21, List.forall_mem_cons.mpr ⟨lw_p22, List.forall_mem_cons.mpr ⟨lw_p23, List.forall_mem_cons.mpr ⟨lw_p24, List.forall_mem_cons.mpr ⟨lw_p25, List.forall_mem_cons.mpr ⟨lw_p26, List.forall_mem_cons.mpr ⟨lw_p27, List.forall_mem_cons.mpr ⟨lw_p28, List.forall_mem_cons.mpr ⟨lw_p29, List.forall_mem_cons.mpr ⟨lw_p30, List.forall_mem_cons.mpr ⟨lw_p31, fun _ h => absurd h List.not_mem_nil⟩⟩⟩⟩⟩⟩⟩⟩⟩⟩⟩⟩⟩⟩⟩⟩
theorem lw_p32 : lw_okq (⟨"ResidueCover$Life", "chance", "(LResidueCover$Classes;)Z"⟩, 9) := ⟨⟨by decide +kernel, by decide +kernel⟩, List.mem_of_getElem? (i := 250) (by decide +kernel), List.mem_of_getElem? (i := 1163) (by decide +kernel), List.mem_of_getElem? (i := 1164) (by decide +kernel)⟩
theorem lw_p33 : lw_okq (⟨"ResidueCover$Life", "draw", "(I)I"⟩, 9) := ⟨⟨by decide +kernel, by decide +kernel⟩, List.mem_of_getElem? (i := 250) (by decide +kernel), List.mem_of_getElem? (i := 1167) (by decide +kernel), List.mem_of_getElem? (i := 1168) (by decide +kernel)⟩
theorem lw_p34 : lw_okq (⟨"ResidueCover$Life", "flip", "(LResidueCover$Classes;I)Z"⟩, 9) := ⟨⟨by decide +kernel, by decide +kernel⟩, List.mem_of_getElem? (i := 250) (by decide +kernel), List.mem_of_getElem? (i := 1173) (by decide +kernel), List.mem_of_getElem? (i := 1174) (by decide +kernel)⟩
theorem lw_p35 : lw_okq (⟨"ResidueCover$Life", "slide", "(LResidueCover$Classes;I)Z"⟩, 9) := ⟨⟨by decide +kernel, by decide +kernel⟩, List.mem_of_getElem? (i := 250) (by decide +kernel), List.mem_of_getElem? (i := 1178) (by decide +kernel), List.mem_of_getElem? (i := 1179) (by decide +kernel)⟩
theorem lw_p36 : lw_okq (⟨"ResidueCover$Life", "act", "(LResidueCover$Classes;LResidueCover$Days;I)Z"⟩, 9) := ⟨⟨by decide +kernel, by decide +kernel⟩, List.mem_of_getElem? (i := 250) (by decide +kernel), List.mem_of_getElem? (i := 1189) (by decide +kernel), List.mem_of_getElem? (i := 1190) (by decide +kernel)⟩
theorem lw_p37 : lw_okq (⟨"ResidueCoverModel", "plain", "(I)V"⟩, 39) := ⟨⟨by decide +kernel, by decide +kernel⟩, List.mem_of_getElem? (i := 1211) (by decide +kernel), List.mem_of_getElem? (i := 1217) (by decide +kernel), List.mem_of_getElem? (i := 1218) (by decide +kernel)⟩
theorem lw_p38 : lw_okq (⟨"ResidueCoverModel", "is", "(I)Z"⟩, 39) := ⟨⟨by decide +kernel, by decide +kernel⟩, List.mem_of_getElem? (i := 1211) (by decide +kernel), List.mem_of_getElem? (i := 1359) (by decide +kernel), List.mem_of_getElem? (i := 1360) (by decide +kernel)⟩
theorem lw_p39 : lw_okq (⟨"ResidueCoverModel", "wrongPlace", "(II)I"⟩, 39) := ⟨⟨by decide +kernel, by decide +kernel⟩, List.mem_of_getElem? (i := 1211) (by decide +kernel), List.mem_of_getElem? (i := 1367) (by decide +kernel), List.mem_of_getElem? (i := 1368) (by decide +kernel)⟩
theorem lw_p40 : lw_okq (⟨"ResidueCoverModel", "four", "(I)V"⟩, 39) := ⟨⟨by decide +kernel, by decide +kernel⟩, List.mem_of_getElem? (i := 1211) (by decide +kernel), List.mem_of_getElem? (i := 1387) (by decide +kernel), List.mem_of_getElem? (i := 1388) (by decide +kernel)⟩
theorem lw_p41 : lw_okq (⟨"ResidueCoverModel", "begins", "(II)Z"⟩, 39) := ⟨⟨by decide +kernel, by decide +kernel⟩, List.mem_of_getElem? (i := 1211) (by decide +kernel), List.mem_of_getElem? (i := 1399) (by decide +kernel), List.mem_of_getElem? (i := 1400) (by decide +kernel)⟩
theorem lw_p42 : lw_okq (⟨"ResidueCoverModel", "ahead", "()V"⟩, 39) := ⟨⟨by decide +kernel, by decide +kernel⟩, List.mem_of_getElem? (i := 1211) (by decide +kernel), List.mem_of_getElem? (i := 1403) (by decide +kernel), List.mem_of_getElem? (i := 1404) (by decide +kernel)⟩
theorem lw_p43 : lw_okq (⟨"ResidueCoverModel", "byteAt", "(I)I"⟩, 39) := ⟨⟨by decide +kernel, by decide +kernel⟩, List.mem_of_getElem? (i := 1211) (by decide +kernel), List.mem_of_getElem? (i := 1407) (by decide +kernel), List.mem_of_getElem? (i := 1408) (by decide +kernel)⟩
theorem lw_p44 : lw_okq (⟨"ResidueCoverModel", "refuse", "(I)I"⟩, 39) := ⟨⟨by decide +kernel, by decide +kernel⟩, List.mem_of_getElem? (i := 1211) (by decide +kernel), List.mem_of_getElem? (i := 1419) (by decide +kernel), List.mem_of_getElem? (i := 1420) (by decide +kernel)⟩
theorem lw_p45 : lw_okq (⟨"ResidueCoverModel", "systemPart", "()Z"⟩, 39) := ⟨⟨by decide +kernel, by decide +kernel⟩, List.mem_of_getElem? (i := 1211) (by decide +kernel), List.mem_of_getElem? (i := 1423) (by decide +kernel), List.mem_of_getElem? (i := 1424) (by decide +kernel)⟩
theorem lw_p46 : lw_okq (⟨"ResidueCoverModel", "inWords", "(Ljava/lang/String;)I"⟩, 39) := ⟨⟨by decide +kernel, by decide +kernel⟩, List.mem_of_getElem? (i := 1211) (by decide +kernel), List.mem_of_getElem? (i := 1428) (by decide +kernel), List.mem_of_getElem? (i := 1429) (by decide +kernel)⟩
theorem lw_p47 : lw_okq (⟨"ResidueCoverModel", "aClass", "()Z"⟩, 39) := ⟨⟨by decide +kernel, by decide +kernel⟩, List.mem_of_getElem? (i := 1211) (by decide +kernel), List.mem_of_getElem? (i := 1434) (by decide +kernel), List.mem_of_getElem? (i := 1435) (by decide +kernel)⟩
def lw_privs_3 : List (MethodName × Nat) := [(⟨"ResidueCover$Life", "chance", "(LResidueCover$Classes;)Z"⟩, 9), (⟨"ResidueCover$Life", "draw", "(I)I"⟩, 9), (⟨"ResidueCover$Life", "flip", "(LResidueCover$Classes;I)Z"⟩, 9), (⟨"ResidueCover$Life", "slide", "(LResidueCover$Classes;I)Z"⟩, 9), (⟨"ResidueCover$Life", "act", "(LResidueCover$Classes;LResidueCover$Days;I)Z"⟩, 9), (⟨"ResidueCoverModel", "plain", "(I)V"⟩, 39), (⟨"ResidueCoverModel", "is", "(I)Z"⟩, 39), (⟨"ResidueCoverModel", "wrongPlace", "(II)I"⟩, 39), (⟨"ResidueCoverModel", "four", "(I)V"⟩, 39), (⟨"ResidueCoverModel", "begins", "(II)Z"⟩, 39), (⟨"ResidueCoverModel", "ahead", "()V"⟩, 39), (⟨"ResidueCoverModel", "byteAt", "(I)I"⟩, 39), (⟨"ResidueCoverModel", "refuse", "(I)I"⟩, 39), (⟨"ResidueCoverModel", "systemPart", "()Z"⟩, 39), (⟨"ResidueCoverModel", "inWords", "(Ljava/lang/String;)I"⟩, 39), (⟨"ResidueCoverModel", "aClass", "()Z"⟩, 39)]
theorem lw_r3 : ∀ q ∈ lw_privs_3, lw_okq q := List.forall_mem_cons.mpr ⟨lw_p32, List.forall_mem_cons.mpr ⟨lw_p33, List.forall_mem_cons.mpr ⟨lw_p34, List.forall_mem_cons.mpr ⟨lw_p35, List.forall_mem_cons.mpr ⟨lw_p36, List.forall_mem_cons.mpr ⟨lw_p37, List.forall_mem_cons.mpr ⟨lw_p38, List.forall_mem_cons.mpr ⟨lw_p39, List.forall_mem_cons.mpr ⟨lw_p40, List.forall_mem_cons.mpr ⟨lw_p41, List.forall_mem_cons.mpr ⟨lw_p42, List.forall_mem_cons.mpr ⟨lw_p43, List.forall_mem_cons.mpr ⟨lw_p44, List.forall_mem_cons.mpr ⟨lw_p45, List.forall_mem_cons.mpr ⟨lw_p46, List.forall_mem_cons.mpr ⟨lw_p47, fun _ h => absurd h List.not_mem_nil⟩⟩⟩⟩⟩⟩⟩⟩⟩⟩⟩⟩⟩⟩⟩⟩
theorem lw_p48 : lw_okq (⟨"ResidueCoverModel", "fails", "(I)Z"⟩, 39) := ⟨⟨by decide +kernel, by decide +kernel⟩, List.mem_of_getElem? (i := 1211) (by decide +kernel), List.mem_of_getElem? (i := 1441) (by decide +kernel), List.mem_of_getElem? (i := 1442) (by decide +kernel)⟩
theorem lw_p49 : lw_okq (⟨"ResidueCoverModel", "isName", "()Z"⟩, 39) := ⟨⟨by decide +kernel, by decide +kernel⟩, List.mem_of_getElem? (i := 1211) (by decide +kernel), List.mem_of_getElem? (i := 1445) (by decide +kernel), List.mem_of_getElem? (i := 1446) (by decide +kernel)⟩
theorem lw_p50 : lw_okq (⟨"ResidueCoverModel", "findHere", "(II)I"⟩, 39) := ⟨⟨by decide +kernel, by decide +kernel⟩, List.mem_of_getElem? (i := 1211) (by decide +kernel), List.mem_of_getElem? (i := 1449) (by decide +kernel), List.mem_of_getElem? (i := 1450) (by decide +kernel)⟩
theorem lw_p51 : lw_okq (⟨"ResidueCoverModel", "nameHere", "()J"⟩, 39) := ⟨⟨by decide +kernel, by decide +kernel⟩, List.mem_of_getElem? (i := 1211) (by decide +kernel), List.mem_of_getElem? (i := 1453) (by decide +kernel), List.mem_of_getElem? (i := 1454) (by decide +kernel)⟩
theorem lw_p52 : lw_okq (⟨"ResidueCoverModel", "wantWord", "(I)Z"⟩, 39) := ⟨⟨by decide +kernel, by decide +kernel⟩, List.mem_of_getElem? (i := 1211) (by decide +kernel), List.mem_of_getElem? (i := 1457) (by decide +kernel), List.mem_of_getElem? (i := 1458) (by decide +kernel)⟩
theorem lw_p53 : lw_okq (⟨"ResidueCoverModel", "number", "(III)Z"⟩, 39) := ⟨⟨by decide +kernel, by decide +kernel⟩, List.mem_of_getElem? (i := 1211) (by decide +kernel), List.mem_of_getElem? (i := 1461) (by decide +kernel), List.mem_of_getElem? (i := 1462) (by decide +kernel)⟩
theorem lw_p54 : lw_okq (⟨"ResidueCoverModel", "wantSign", "(I)Z"⟩, 39) := ⟨⟨by decide +kernel, by decide +kernel⟩, List.mem_of_getElem? (i := 1211) (by decide +kernel), List.mem_of_getElem? (i := 1465) (by decide +kernel), List.mem_of_getElem? (i := 1466) (by decide +kernel)⟩
theorem lw_p55 : lw_okq (⟨"ResidueCoverModel", "isSign", "(I)Z"⟩, 39) := ⟨⟨by decide +kernel, by decide +kernel⟩, List.mem_of_getElem? (i := 1211) (by decide +kernel), List.mem_of_getElem? (i := 1469) (by decide +kernel), List.mem_of_getElem? (i := 1470) (by decide +kernel)⟩
theorem lw_p56 : lw_okq (⟨"ResidueCoverModel", "taken", "(I)I"⟩, 39) := ⟨⟨by decide +kernel, by decide +kernel⟩, List.mem_of_getElem? (i := 1211) (by decide +kernel), List.mem_of_getElem? (i := 1473) (by decide +kernel), List.mem_of_getElem? (i := 1474) (by decide +kernel)⟩
theorem lw_p57 : lw_okq (⟨"ResidueCoverModel", "gives", "(I)I"⟩, 39) := ⟨⟨by decide +kernel, by decide +kernel⟩, List.mem_of_getElem? (i := 1211) (by decide +kernel), List.mem_of_getElem? (i := 1477) (by decide +kernel), List.mem_of_getElem? (i := 1478) (by decide +kernel)⟩
theorem lw_p58 : lw_okq (⟨"ResidueCoverModel", "dayStep", "()Z"⟩, 39) := ⟨⟨by decide +kernel, by decide +kernel⟩, List.mem_of_getElem? (i := 1211) (by decide +kernel), List.mem_of_getElem? (i := 1485) (by decide +kernel), List.mem_of_getElem? (i := 1486) (by decide +kernel)⟩
theorem lw_p59 : lw_okq (⟨"ResidueCoverModel", "dayOrder", "(II)Z"⟩, 39) := ⟨⟨by decide +kernel, by decide +kernel⟩, List.mem_of_getElem? (i := 1211) (by decide +kernel), List.mem_of_getElem? (i := 1492) (by decide +kernel), List.mem_of_getElem? (i := 1493) (by decide +kernel)⟩
theorem lw_p60 : lw_okq (⟨"ResidueCoverModel", "classTo", "(I)Z"⟩, 39) := ⟨⟨by decide +kernel, by decide +kernel⟩, List.mem_of_getElem? (i := 1211) (by decide +kernel), List.mem_of_getElem? (i := 1496) (by decide +kernel), List.mem_of_getElem? (i := 1497) (by decide +kernel)⟩
theorem lw_p61 : lw_okq (⟨"ResidueCoverModel", "test", "(I)Z"⟩, 39) := ⟨⟨by decide +kernel, by decide +kernel⟩, List.mem_of_getElem? (i := 1211) (by decide +kernel), List.mem_of_getElem? (i := 1500) (by decide +kernel), List.mem_of_getElem? (i := 1501) (by decide +kernel)⟩
theorem lw_p62 : lw_okq (⟨"ResidueCoverModel", "laysNow", "()Z"⟩, 39) := ⟨⟨by decide +kernel, by decide +kernel⟩, List.mem_of_getElem? (i := 1211) (by decide +kernel), List.mem_of_getElem? (i := 1512) (by decide +kernel), List.mem_of_getElem? (i := 1513) (by decide +kernel)⟩
theorem lw_p63 : lw_okq (⟨"ResidueCoverModel", "onSet", "()I"⟩, 39) := ⟨⟨by decide +kernel, by decide +kernel⟩, List.mem_of_getElem? (i := 1211) (by decide +kernel), List.mem_of_getElem? (i := 1516) (by decide +kernel), List.mem_of_getElem? (i := 1517) (by decide +kernel)⟩
def lw_privs_4 : List (MethodName × Nat) := [(⟨"ResidueCoverModel", "fails", "(I)Z"⟩, 39), (⟨"ResidueCoverModel", "isName", "()Z"⟩, 39), (⟨"ResidueCoverModel", "findHere", "(II)I"⟩, 39), (⟨"ResidueCoverModel", "nameHere", "()J"⟩, 39), (⟨"ResidueCoverModel", "wantWord", "(I)Z"⟩, 39), (⟨"ResidueCoverModel", "number", "(III)Z"⟩, 39), (⟨"ResidueCoverModel", "wantSign", "(I)Z"⟩, 39), (⟨"ResidueCoverModel", "isSign", "(I)Z"⟩, 39), (⟨"ResidueCoverModel", "taken", "(I)I"⟩, 39), (⟨"ResidueCoverModel", "gives", "(I)I"⟩, 39), (⟨"ResidueCoverModel", "dayStep", "()Z"⟩, 39), (⟨"ResidueCoverModel", "dayOrder", "(II)Z"⟩, 39), (⟨"ResidueCoverModel", "classTo", "(I)Z"⟩, 39), (⟨"ResidueCoverModel", "test", "(I)Z"⟩, 39), (⟨"ResidueCoverModel", "laysNow", "()Z"⟩, 39), (⟨"ResidueCoverModel", "onSet", "()I"⟩, 39)]
theorem lw_r4 : ∀ q ∈ lw_privs_4, lw_okq q := List.forall_mem_cons.mpr ⟨lw_p48, List.forall_mem_cons.mpr ⟨lw_p49, List.forall_mem_cons.mpr ⟨lw_p50, List.forall_mem_cons.mpr ⟨lw_p51, List.forall_mem_cons.mpr ⟨lw_p52, List.forall_mem_cons.mpr ⟨lw_p53, List.forall_mem_cons.mpr ⟨lw_p54, List.forall_mem_cons.mpr ⟨lw_p55, List.forall_mem_cons.mpr ⟨lw_p56, List.forall_mem_cons.mpr ⟨lw_p57, List.forall_mem_cons.mpr ⟨lw_p58, List.forall_mem_cons.mpr ⟨lw_p59, List.forall_mem_cons.mpr ⟨lw_p60, List.forall_mem_cons.mpr ⟨lw_p61, List.forall_mem_cons.mpr ⟨lw_p62, List.forall_mem_cons.mpr ⟨lw_p63, fun _ h => absurd h List.not_mem_nil⟩⟩⟩⟩⟩⟩⟩⟩⟩⟩⟩⟩⟩⟩⟩⟩
theorem lw_p64 : lw_okq (⟨"ResidueCoverModel", "isOn", "(I)Z"⟩, 39) := ⟨⟨by decide +kernel, by decide +kernel⟩, List.mem_of_getElem? (i := 1211) (by decide +kernel), List.mem_of_getElem? (i := 1520) (by decide +kernel), List.mem_of_getElem? (i := 1521) (by decide +kernel)⟩
theorem lw_p65 : lw_okq (⟨"ResidueCoverModel", "lays", "(I)Z"⟩, 39) := ⟨⟨by decide +kernel, by decide +kernel⟩, List.mem_of_getElem? (i := 1211) (by decide +kernel), List.mem_of_getElem? (i := 1524) (by decide +kernel), List.mem_of_getElem? (i := 1525) (by decide +kernel)⟩
theorem lw_p66 : lw_okq (⟨"ResidueCoverModel", "spanOf", "(I)I"⟩, 39) := ⟨⟨by decide +kernel, by decide +kernel⟩, List.mem_of_getElem? (i := 1211) (by decide +kernel), List.mem_of_getElem? (i := 1528) (by decide +kernel), List.mem_of_getElem? (i := 1529) (by decide +kernel)⟩
theorem lw_p67 : lw_okq (⟨"ResidueCoverModel", "modulusOf", "(I)I"⟩, 39) := ⟨⟨by decide +kernel, by decide +kernel⟩, List.mem_of_getElem? (i := 1211) (by decide +kernel), List.mem_of_getElem? (i := 1535) (by decide +kernel), List.mem_of_getElem? (i := 1536) (by decide +kernel)⟩
theorem lw_p68 : lw_okq (⟨"ResidueCoverModel", "restOf", "(I)I"⟩, 39) := ⟨⟨by decide +kernel, by decide +kernel⟩, List.mem_of_getElem? (i := 1211) (by decide +kernel), List.mem_of_getElem? (i := 1542) (by decide +kernel), List.mem_of_getElem? (i := 1543) (by decide +kernel)⟩
theorem lw_p69 : lw_okq (⟨"ResidueCoverModel", "justBy", "(I)I"⟩, 39) := ⟨⟨by decide +kernel, by decide +kernel⟩, List.mem_of_getElem? (i := 1211) (by decide +kernel), List.mem_of_getElem? (i := 1546) (by decide +kernel), List.mem_of_getElem? (i := 1547) (by decide +kernel)⟩
theorem lw_p70 : lw_okq (⟨"ResidueCoverModel", "couples", "()I"⟩, 39) := ⟨⟨by decide +kernel, by decide +kernel⟩, List.mem_of_getElem? (i := 1211) (by decide +kernel), List.mem_of_getElem? (i := 1550) (by decide +kernel), List.mem_of_getElem? (i := 1551) (by decide +kernel)⟩
theorem lw_p71 : lw_okq (⟨"ResidueCoverModel", "doMeet", "(II)Z"⟩, 39) := ⟨⟨by decide +kernel, by decide +kernel⟩, List.mem_of_getElem? (i := 1211) (by decide +kernel), List.mem_of_getElem? (i := 1554) (by decide +kernel), List.mem_of_getElem? (i := 1555) (by decide +kernel)⟩
theorem lw_p72 : lw_okq (⟨"ResidueCoverModel", "areUnlike", "()Z"⟩, 39) := ⟨⟨by decide +kernel, by decide +kernel⟩, List.mem_of_getElem? (i := 1211) (by decide +kernel), List.mem_of_getElem? (i := 1558) (by decide +kernel), List.mem_of_getElem? (i := 1559) (by decide +kernel)⟩
theorem lw_p73 : lw_okq (⟨"ResidueCoverModel", "isClass", "(I)Z"⟩, 39) := ⟨⟨by decide +kernel, by decide +kernel⟩, List.mem_of_getElem? (i := 1211) (by decide +kernel), List.mem_of_getElem? (i := 1566) (by decide +kernel), List.mem_of_getElem? (i := 1567) (by decide +kernel)⟩
theorem lw_p74 : lw_okq (⟨"ResidueCoverModel", "catchers", "(I)I"⟩, 39) := ⟨⟨by decide +kernel, by decide +kernel⟩, List.mem_of_getElem? (i := 1211) (by decide +kernel), List.mem_of_getElem? (i := 1575) (by decide +kernel), List.mem_of_getElem? (i := 1576) (by decide +kernel)⟩
theorem lw_p75 : lw_okq (⟨"ResidueCoverModel", "orNone", "(I)I"⟩, 39) := ⟨⟨by decide +kernel, by decide +kernel⟩, List.mem_of_getElem? (i := 1211) (by decide +kernel), List.mem_of_getElem? (i := 1583) (by decide +kernel), List.mem_of_getElem? (i := 1584) (by decide +kernel)⟩
theorem lw_p76 : lw_okq (⟨"ResidueCoverModel", "puts", "(III)V"⟩, 39) := ⟨⟨by decide +kernel, by decide +kernel⟩, List.mem_of_getElem? (i := 1211) (by decide +kernel), List.mem_of_getElem? (i := 1597) (by decide +kernel), List.mem_of_getElem? (i := 1598) (by decide +kernel)⟩
theorem lw_p77 : lw_okq (⟨"ResidueCoverModel", "takesAway", "(I)V"⟩, 39) := ⟨⟨by decide +kernel, by decide +kernel⟩, List.mem_of_getElem? (i := 1211) (by decide +kernel), List.mem_of_getElem? (i := 1605) (by decide +kernel), List.mem_of_getElem? (i := 1606) (by decide +kernel)⟩
theorem lw_p78 : lw_okq (⟨"ResidueCoverModel", "shifts", "(I)V"⟩, 39) := ⟨⟨by decide +kernel, by decide +kernel⟩, List.mem_of_getElem? (i := 1211) (by decide +kernel), List.mem_of_getElem? (i := 1617) (by decide +kernel), List.mem_of_getElem? (i := 1618) (by decide +kernel)⟩
theorem lw_p79 : lw_okq (⟨"ResidueCoverModel", "whyNotSplit", "(II)I"⟩, 39) := ⟨⟨by decide +kernel, by decide +kernel⟩, List.mem_of_getElem? (i := 1211) (by decide +kernel), List.mem_of_getElem? (i := 1631) (by decide +kernel), List.mem_of_getElem? (i := 1632) (by decide +kernel)⟩
def lw_privs_5 : List (MethodName × Nat) := [(⟨"ResidueCoverModel", "isOn", "(I)Z"⟩, 39), (⟨"ResidueCoverModel", "lays", "(I)Z"⟩, 39), (⟨"ResidueCoverModel", "spanOf", "(I)I"⟩, 39), (⟨"ResidueCoverModel", "modulusOf", "(I)I"⟩, 39), (⟨"ResidueCoverModel", "restOf", "(I)I"⟩, 39), (⟨"ResidueCoverModel", "justBy", "(I)I"⟩, 39), (⟨"ResidueCoverModel", "couples", "()I"⟩, 39), (⟨"ResidueCoverModel", "doMeet", "(II)Z"⟩, 39), (⟨"ResidueCoverModel", "areUnlike", "()Z"⟩, 39), (⟨"ResidueCoverModel", "isClass", "(I)Z"⟩, 39), (⟨"ResidueCoverModel", "catchers", "(I)I"⟩, 39), (⟨"ResidueCoverModel", "orNone", "(I)I"⟩, 39), (⟨"ResidueCoverModel", "puts", "(III)V"⟩, 39), (⟨"ResidueCoverModel", "takesAway", "(I)V"⟩, 39), (⟨"ResidueCoverModel", "shifts", "(I)V"⟩, 39), (⟨"ResidueCoverModel", "whyNotSplit", "(II)I"⟩, 39)]
theorem lw_r5 : ∀ q ∈ lw_privs_5, lw_okq q := List.forall_mem_cons.mpr ⟨lw_p64, List.forall_mem_cons.mpr ⟨lw_p65, List.forall_mem_cons.mpr ⟨lw_p66, List.forall_mem_cons.mpr ⟨lw_p67, List.forall_mem_cons.mpr ⟨lw_p68, List.forall_mem_cons.mpr ⟨lw_p69, List.forall_mem_cons.mpr ⟨lw_p70, List.forall_mem_cons.mpr ⟨lw_p71, List.forall_mem_cons.mpr ⟨lw_p72, List.forall_mem_cons.mpr ⟨lw_p73, List.forall_mem_cons.mpr ⟨lw_p74, List.forall_mem_cons.mpr ⟨lw_p75, List.forall_mem_cons.mpr ⟨lw_p76, List.forall_mem_cons.mpr ⟨lw_p77, List.forall_mem_cons.mpr ⟨lw_p78, List.forall_mem_cons.mpr ⟨lw_p79, fun _ h => absurd h List.not_mem_nil⟩⟩⟩⟩⟩⟩⟩⟩⟩⟩⟩⟩⟩⟩⟩⟩
theorem lw_p80 : lw_okq (⟨"ResidueCoverModel", "splits", "(II)V"⟩, 39) := ⟨⟨by decide +kernel, by decide +kernel⟩, List.mem_of_getElem? (i := 1211) (by decide +kernel), List.mem_of_getElem? (i := 1635) (by decide +kernel), List.mem_of_getElem? (i := 1636) (by decide +kernel)⟩
theorem lw_p81 : lw_okq (⟨"ResidueCoverModel", "findClass", "(IIZ)I"⟩, 39) := ⟨⟨by decide +kernel, by decide +kernel⟩, List.mem_of_getElem? (i := 1211) (by decide +kernel), List.mem_of_getElem? (i := 1643) (by decide +kernel), List.mem_of_getElem? (i := 1644) (by decide +kernel)⟩
theorem lw_p82 : lw_okq (⟨"ResidueCoverModel", "tellsBy", "(JJ)Z"⟩, 39) := ⟨⟨by decide +kernel, by decide +kernel⟩, List.mem_of_getElem? (i := 1211) (by decide +kernel), List.mem_of_getElem? (i := 1660) (by decide +kernel), List.mem_of_getElem? (i := 1661) (by decide +kernel)⟩
theorem lw_p83 : lw_okq (⟨"ResidueCoverModel", "fewestNow", "()I"⟩, 39) := ⟨⟨by decide +kernel, by decide +kernel⟩, List.mem_of_getElem? (i := 1211) (by decide +kernel), List.mem_of_getElem? (i := 1680) (by decide +kernel), List.mem_of_getElem? (i := 1681) (by decide +kernel)⟩
theorem lw_p84 : lw_okq (⟨"ResidueCoverModel", "thickNow", "()I"⟩, 39) := ⟨⟨by decide +kernel, by decide +kernel⟩, List.mem_of_getElem? (i := 1211) (by decide +kernel), List.mem_of_getElem? (i := 1699) (by decide +kernel), List.mem_of_getElem? (i := 1700) (by decide +kernel)⟩
theorem lw_p85 : lw_okq (⟨"ResidueCoverModel", "isLikeBy", "(I)Z"⟩, 39) := ⟨⟨by decide +kernel, by decide +kernel⟩, List.mem_of_getElem? (i := 1211) (by decide +kernel), List.mem_of_getElem? (i := 1711) (by decide +kernel), List.mem_of_getElem? (i := 1712) (by decide +kernel)⟩
theorem lw_p86 : lw_okq (⟨"ResidueCoverModel", "laysTree", "()V"⟩, 39) := ⟨⟨by decide +kernel, by decide +kernel⟩, List.mem_of_getElem? (i := 1211) (by decide +kernel), List.mem_of_getElem? (i := 1720) (by decide +kernel), List.mem_of_getElem? (i := 1721) (by decide +kernel)⟩
theorem lw_p87 : lw_okq (⟨"ResidueCoverModel", "kindOf", "(II)I"⟩, 39) := ⟨⟨by decide +kernel, by decide +kernel⟩, List.mem_of_getElem? (i := 1211) (by decide +kernel), List.mem_of_getElem? (i := 1724) (by decide +kernel), List.mem_of_getElem? (i := 1725) (by decide +kernel)⟩
theorem lw_p88 : lw_okq (⟨"ResidueCoverModel", "wrongChoices", "(III)I"⟩, 39) := ⟨⟨by decide +kernel, by decide +kernel⟩, List.mem_of_getElem? (i := 1211) (by decide +kernel), List.mem_of_getElem? (i := 1739) (by decide +kernel), List.mem_of_getElem? (i := 1740) (by decide +kernel)⟩
theorem lw_p89 : lw_okq (⟨"ResidueCoverModel", "allWays", "(I)I"⟩, 39) := ⟨⟨by decide +kernel, by decide +kernel⟩, List.mem_of_getElem? (i := 1211) (by decide +kernel), List.mem_of_getElem? (i := 1745) (by decide +kernel), List.mem_of_getElem? (i := 1746) (by decide +kernel)⟩
theorem lw_p90 : lw_okq (⟨"ResidueCoverModel", "laysWay", "(II)V"⟩, 39) := ⟨⟨by decide +kernel, by decide +kernel⟩, List.mem_of_getElem? (i := 1211) (by decide +kernel), List.mem_of_getElem? (i := 1749) (by decide +kernel), List.mem_of_getElem? (i := 1750) (by decide +kernel)⟩
theorem lw_p91 : lw_okq (⟨"ResidueCoverModel", "isGood", "(II)Z"⟩, 39) := ⟨⟨by decide +kernel, by decide +kernel⟩, List.mem_of_getElem? (i := 1211) (by decide +kernel), List.mem_of_getElem? (i := 1753) (by decide +kernel), List.mem_of_getElem? (i := 1754) (by decide +kernel)⟩
theorem lw_p92 : lw_okq (⟨"ResidueCoverModel", "isAllBy", "(I)Z"⟩, 39) := ⟨⟨by decide +kernel, by decide +kernel⟩, List.mem_of_getElem? (i := 1211) (by decide +kernel), List.mem_of_getElem? (i := 1757) (by decide +kernel), List.mem_of_getElem? (i := 1758) (by decide +kernel)⟩
theorem lw_p93 : lw_okq (⟨"ResidueCoverModel", "spanBy", "(I)I"⟩, 39) := ⟨⟨by decide +kernel, by decide +kernel⟩, List.mem_of_getElem? (i := 1211) (by decide +kernel), List.mem_of_getElem? (i := 1761) (by decide +kernel), List.mem_of_getElem? (i := 1762) (by decide +kernel)⟩
theorem lw_p94 : lw_okq (⟨"ResidueCoverModel", "isNoneTwice", "(I)Z"⟩, 39) := ⟨⟨by decide +kernel, by decide +kernel⟩, List.mem_of_getElem? (i := 1211) (by decide +kernel), List.mem_of_getElem? (i := 1765) (by decide +kernel), List.mem_of_getElem? (i := 1766) (by decide +kernel)⟩
theorem lw_p95 : lw_okq (⟨"ResidueCoverModel", "wrongGame", "(II)I"⟩, 39) := ⟨⟨by decide +kernel, by decide +kernel⟩, List.mem_of_getElem? (i := 1211) (by decide +kernel), List.mem_of_getElem? (i := 1777) (by decide +kernel), List.mem_of_getElem? (i := 1778) (by decide +kernel)⟩
def lw_privs_6 : List (MethodName × Nat) := [(⟨"ResidueCoverModel", "splits", "(II)V"⟩, 39), (⟨"ResidueCoverModel", "findClass", "(IIZ)I"⟩, 39), (⟨"ResidueCoverModel", "tellsBy", "(JJ)Z"⟩, 39), (⟨"ResidueCoverModel", "fewestNow", "()I"⟩, 39), (⟨"ResidueCoverModel", "thickNow", "()I"⟩, 39), (⟨"ResidueCoverModel", "isLikeBy", "(I)Z"⟩, 39), (⟨"ResidueCoverModel", "laysTree", "()V"⟩, 39), (⟨"ResidueCoverModel", "kindOf", "(II)I"⟩, 39), (⟨"ResidueCoverModel", "wrongChoices", "(III)I"⟩, 39), (⟨"ResidueCoverModel", "allWays", "(I)I"⟩, 39), (⟨"ResidueCoverModel", "laysWay", "(II)V"⟩, 39), (⟨"ResidueCoverModel", "isGood", "(II)Z"⟩, 39), (⟨"ResidueCoverModel", "isAllBy", "(I)Z"⟩, 39), (⟨"ResidueCoverModel", "spanBy", "(I)I"⟩, 39), (⟨"ResidueCoverModel", "isNoneTwice", "(I)Z"⟩, 39), (⟨"ResidueCoverModel", "wrongGame", "(II)I"⟩, 39)]
theorem lw_r6 : ∀ q ∈ lw_privs_6, lw_okq q := List.forall_mem_cons.mpr ⟨lw_p80, List.forall_mem_cons.mpr ⟨lw_p81, List.forall_mem_cons.mpr ⟨lw_p82, List.forall_mem_cons.mpr ⟨lw_p83, List.forall_mem_cons.mpr ⟨lw_p84, List.forall_mem_cons.mpr ⟨lw_p85, List.forall_mem_cons.mpr ⟨lw_p86, List.forall_mem_cons.mpr ⟨lw_p87, List.forall_mem_cons.mpr ⟨lw_p88, List.forall_mem_cons.mpr ⟨lw_p89, List.forall_mem_cons.mpr ⟨lw_p90, List.forall_mem_cons.mpr ⟨lw_p91, List.forall_mem_cons.mpr ⟨lw_p92, List.forall_mem_cons.mpr ⟨lw_p93, List.forall_mem_cons.mpr ⟨lw_p94, List.forall_mem_cons.mpr ⟨lw_p95, fun _ h => absurd h List.not_mem_nil⟩⟩⟩⟩⟩⟩⟩⟩⟩⟩⟩⟩⟩⟩⟩⟩
theorem lw_p96 : lw_okq (⟨"ResidueCoverModel", "worthOf", "(I)I"⟩, 39) := ⟨⟨by decide +kernel, by decide +kernel⟩, List.mem_of_getElem? (i := 1211) (by decide +kernel), List.mem_of_getElem? (i := 1781) (by decide +kernel), List.mem_of_getElem? (i := 1782) (by decide +kernel)⟩
theorem lw_p97 : lw_okq (⟨"ResidueCoverModel", "mostBy", "(II)I"⟩, 39) := ⟨⟨by decide +kernel, by decide +kernel⟩, List.mem_of_getElem? (i := 1211) (by decide +kernel), List.mem_of_getElem? (i := 1785) (by decide +kernel), List.mem_of_getElem? (i := 1786) (by decide +kernel)⟩
theorem lw_p98 : lw_okq (⟨"ResidueCoverModel", "afterBy", "(II)I"⟩, 39) := ⟨⟨by decide +kernel, by decide +kernel⟩, List.mem_of_getElem? (i := 1211) (by decide +kernel), List.mem_of_getElem? (i := 1789) (by decide +kernel), List.mem_of_getElem? (i := 1790) (by decide +kernel)⟩
theorem lw_p99 : lw_okq (⟨"ResidueCoverModel", "leastBy", "(I)I"⟩, 39) := ⟨⟨by decide +kernel, by decide +kernel⟩, List.mem_of_getElem? (i := 1211) (by decide +kernel), List.mem_of_getElem? (i := 1793) (by decide +kernel), List.mem_of_getElem? (i := 1794) (by decide +kernel)⟩
theorem lw_p100 : lw_okq (⟨"ResidueCoverModel", "lives", "(I)V"⟩, 39) := ⟨⟨by decide +kernel, by decide +kernel⟩, List.mem_of_getElem? (i := 1211) (by decide +kernel), List.mem_of_getElem? (i := 1814) (by decide +kernel), List.mem_of_getElem? (i := 1815) (by decide +kernel)⟩
theorem lw_p101 : lw_okq (⟨"ResidueCoverModel", "does", "(I)Z"⟩, 39) := ⟨⟨by decide +kernel, by decide +kernel⟩, List.mem_of_getElem? (i := 1211) (by decide +kernel), List.mem_of_getElem? (i := 1818) (by decide +kernel), List.mem_of_getElem? (i := 1819) (by decide +kernel)⟩
theorem lw_p102 : lw_okq (⟨"ResidueCoverModel", "switches", "(II)Z"⟩, 39) := ⟨⟨by decide +kernel, by decide +kernel⟩, List.mem_of_getElem? (i := 1211) (by decide +kernel), List.mem_of_getElem? (i := 1822) (by decide +kernel), List.mem_of_getElem? (i := 1823) (by decide +kernel)⟩
theorem lw_p103 : lw_okq (⟨"ResidueCoverModel", "shiftsOn", "(I)Z"⟩, 39) := ⟨⟨by decide +kernel, by decide +kernel⟩, List.mem_of_getElem? (i := 1211) (by decide +kernel), List.mem_of_getElem? (i := 1826) (by decide +kernel), List.mem_of_getElem? (i := 1827) (by decide +kernel)⟩
theorem lw_p104 : lw_okq (⟨"ResidueCoverModel", "splitsOn", "(II)Z"⟩, 39) := ⟨⟨by decide +kernel, by decide +kernel⟩, List.mem_of_getElem? (i := 1211) (by decide +kernel), List.mem_of_getElem? (i := 1830) (by decide +kernel), List.mem_of_getElem? (i := 1831) (by decide +kernel)⟩
theorem lw_p105 : lw_okq (⟨"ResidueCoverModel", "doesAny", "()Z"⟩, 39) := ⟨⟨by decide +kernel, by decide +kernel⟩, List.mem_of_getElem? (i := 1211) (by decide +kernel), List.mem_of_getElem? (i := 1834) (by decide +kernel), List.mem_of_getElem? (i := 1835) (by decide +kernel)⟩
theorem lw_p106 : lw_okq (⟨"ResidueCoverModel", "draw", "(I)I"⟩, 39) := ⟨⟨by decide +kernel, by decide +kernel⟩, List.mem_of_getElem? (i := 1211) (by decide +kernel), List.mem_of_getElem? (i := 1838) (by decide +kernel), List.mem_of_getElem? (i := 1839) (by decide +kernel)⟩
theorem lw_p107 : lw_okq (⟨"ResidueCoverModel", "holds", "(I)Z"⟩, 39) := ⟨⟨by decide +kernel, by decide +kernel⟩, List.mem_of_getElem? (i := 1211) (by decide +kernel), List.mem_of_getElem? (i := 1843) (by decide +kernel), List.mem_of_getElem? (i := 1844) (by decide +kernel)⟩
theorem lw_p108 : lw_okq (⟨"ResidueCoverModel", "behindEnds", "(I)I"⟩, 39) := ⟨⟨by decide +kernel, by decide +kernel⟩, List.mem_of_getElem? (i := 1211) (by decide +kernel), List.mem_of_getElem? (i := 1847) (by decide +kernel), List.mem_of_getElem? (i := 1848) (by decide +kernel)⟩
theorem lw_p109 : lw_okq (⟨"ResidueCoverModel", "keeps", "(I)V"⟩, 39) := ⟨⟨by decide +kernel, by decide +kernel⟩, List.mem_of_getElem? (i := 1211) (by decide +kernel), List.mem_of_getElem? (i := 1860) (by decide +kernel), List.mem_of_getElem? (i := 1861) (by decide +kernel)⟩
theorem lw_p110 : lw_okq (⟨"ResidueCoverModel", "brings", "(I)V"⟩, 39) := ⟨⟨by decide +kernel, by decide +kernel⟩, List.mem_of_getElem? (i := 1211) (by decide +kernel), List.mem_of_getElem? (i := 1864) (by decide +kernel), List.mem_of_getElem? (i := 1865) (by decide +kernel)⟩
theorem lw_p111 : lw_okq (⟨"ResidueCoverModel", "copies", "(II)V"⟩, 39) := ⟨⟨by decide +kernel, by decide +kernel⟩, List.mem_of_getElem? (i := 1211) (by decide +kernel), List.mem_of_getElem? (i := 1872) (by decide +kernel), List.mem_of_getElem? (i := 1873) (by decide +kernel)⟩
def lw_privs_7 : List (MethodName × Nat) := [(⟨"ResidueCoverModel", "worthOf", "(I)I"⟩, 39), (⟨"ResidueCoverModel", "mostBy", "(II)I"⟩, 39), (⟨"ResidueCoverModel", "afterBy", "(II)I"⟩, 39), (⟨"ResidueCoverModel", "leastBy", "(I)I"⟩, 39), (⟨"ResidueCoverModel", "lives", "(I)V"⟩, 39), (⟨"ResidueCoverModel", "does", "(I)Z"⟩, 39), (⟨"ResidueCoverModel", "switches", "(II)Z"⟩, 39), (⟨"ResidueCoverModel", "shiftsOn", "(I)Z"⟩, 39), (⟨"ResidueCoverModel", "splitsOn", "(II)Z"⟩, 39), (⟨"ResidueCoverModel", "doesAny", "()Z"⟩, 39), (⟨"ResidueCoverModel", "draw", "(I)I"⟩, 39), (⟨"ResidueCoverModel", "holds", "(I)Z"⟩, 39), (⟨"ResidueCoverModel", "behindEnds", "(I)I"⟩, 39), (⟨"ResidueCoverModel", "keeps", "(I)V"⟩, 39), (⟨"ResidueCoverModel", "brings", "(I)V"⟩, 39), (⟨"ResidueCoverModel", "copies", "(II)V"⟩, 39)]
theorem lw_r7 : ∀ q ∈ lw_privs_7, lw_okq q := List.forall_mem_cons.mpr ⟨lw_p96, List.forall_mem_cons.mpr ⟨lw_p97, List.forall_mem_cons.mpr ⟨lw_p98, List.forall_mem_cons.mpr ⟨lw_p99, List.forall_mem_cons.mpr ⟨lw_p100, List.forall_mem_cons.mpr ⟨lw_p101, List.forall_mem_cons.mpr ⟨lw_p102, List.forall_mem_cons.mpr ⟨lw_p103, List.forall_mem_cons.mpr ⟨lw_p104, List.forall_mem_cons.mpr ⟨lw_p105, List.forall_mem_cons.mpr ⟨lw_p106, List.forall_mem_cons.mpr ⟨lw_p107, List.forall_mem_cons.mpr ⟨lw_p108, List.forall_mem_cons.mpr ⟨lw_p109, List.forall_mem_cons.mpr ⟨lw_p110, List.forall_mem_cons.mpr ⟨lw_p111, fun _ h => absurd h List.not_mem_nil⟩⟩⟩⟩⟩⟩⟩⟩⟩⟩⟩⟩⟩⟩⟩⟩
def lw_privs : List (MethodName × Nat) := lw_privs_1 ++ (lw_privs_2 ++ (lw_privs_3 ++ (lw_privs_4 ++ (lw_privs_5 ++ (lw_privs_6 ++ (lw_privs_7))))))
def lw_tbl : List Cond := k2_sels lw_privs ++ tables_1
theorem lw_privs_ok : ∀ q ∈ lw_privs, lw_okq q := by
  show ∀ q ∈ lw_privs_1 ++ (lw_privs_2 ++ (lw_privs_3 ++ (lw_privs_4 ++ (lw_privs_5 ++ (lw_privs_6 ++ (lw_privs_7)))))), lw_okq q
  exact List.forall_mem_append.mpr ⟨lw_r1, List.forall_mem_append.mpr ⟨lw_r2, List.forall_mem_append.mpr ⟨lw_r3, List.forall_mem_append.mpr ⟨lw_r4, List.forall_mem_append.mpr ⟨lw_r5, List.forall_mem_append.mpr ⟨lw_r6, lw_r7⟩⟩⟩⟩⟩⟩
/-! ===== BEGIN words of one list among another's, by their places ===== -/
theorem goodIn_r {big : List Cond} (ws : List Cond) (ps : List Nat) (hp : ws = ps.filterMap (fun i => big[i]?)) (h : ws.all goodWord = true) : GoodIn big ws := by
  intro w hw
  have h1 := List.all_eq_true.mp h w hw
  rw [hp] at hw
  obtain ⟨i, -, hi⟩ := List.mem_filterMap.mp hw
  have hm : w ∈ big := by first | exact List.mem_of_getElem? hi | exact List.getElem?_mem hi
  exact ⟨hm, good_of_word h1⟩
theorem goodIn_app {big a b : List Cond} (ha : GoodIn big a) (hb : GoodIn big b) : GoodIn big (a ++ b) := fun w h => (List.mem_append.mp h).elim (ha w) (hb w)
theorem goodIn_ca {big a b : List Cond} {c : Cond} (ha : GoodIn big (c :: a)) (hb : GoodIn big b) : GoodIn big (c :: (a ++ b)) := fun w h => (List.mem_cons.mp h).elim (fun e => ha w (List.mem_cons.mpr (Or.inl e))) (fun h => (List.mem_append.mp h).elim (fun h => ha w (List.mem_cons.mpr (Or.inr h))) (hb w))
theorem goodIn_sub {big ws : List Cond} (hm : ∀ w ∈ ws, w ∈ big) (h : ws.all goodWord = true) : GoodIn big ws := fun w hw => ⟨hm w hw, good_of_word (List.all_eq_true.mp h w hw)⟩
/-! ===== END ===== -/

/-! ===== BEGIN new T[n][m]: the outer array a place, the inner ones among the pooled ===== -/
/-- f, but v at every address of l -/
def vr_up {α : Type} (f : Nat → α) (l : List Nat) (v : α) : Nat → α := fun a => if a ∈ l then v else f a
theorem vr_up_in {α : Type} {f : Nat → α} {l : List Nat} {v : α} {a : Nat} (h : a ∈ l) : vr_up f l v a = v := if_pos h
theorem vr_up_ne {α : Type} {f : Nat → α} {l : List Nat} {v : α} {a : Nat} (h : a ∉ l) : vr_up f l v a = f a := if_neg h
theorem vr_rows {L l : List Nat} {f : Nat → va_E} {e : va_E} (h : ∀ a, a ∈ l → a ∉ L) : va_pl L f ++ l.map (fun a => (a, e)) = va_pl (L ++ l) (vr_up f l e) := by
  unfold va_pl
  rw [List.map_append]
  congr 1
  · apply List.map_congr_left
    intro a ha
    rw [vr_up_ne (fun q => h a q ha)]
  · apply List.map_congr_left
    intro a ha
    rw [vr_up_in ha]
theorem vr_lay {X rows : va_W} {x : Nat × va_E} {pl : va_W} {D : va_G} {cl : List vw_C} {H : Heap} (hP : va_P D cl (((X ++ pl) ++ [x]) ++ rows) H) : va_P D cl ((X ++ [x]) ++ (pl ++ rows)) H := by
  rw [List.append_assoc (X ++ pl)] at hP
  have h := va_P.swap hP
  rw [← List.append_assoc X] at h
  have h2 := va_P.swap h
  rw [List.append_assoc (X ++ [x])] at h2
  exact h2
theorem vr_layD {X rows : va_W} {x : Nat × va_E} {pl : va_W} {A : Nat → Prop} (hD : va_D A (((X ++ pl) ++ [x]) ++ rows)) : va_D A ((X ++ [x]) ++ (pl ++ rows)) := by
  rw [List.append_assoc (X ++ pl)] at hD
  have h := va_D.swap hD
  rw [← List.append_assoc X] at h
  have h2 := va_D.swap h
  rw [List.append_assoc (X ++ [x])] at h2
  exact h2
/-! ===== END ===== -/

def RX0 : String := "ResidueCover$Choices"
def TX0 : u_T := fun k => match k with
  | 0 => ("ResidueCover$Choices", "moduli", "[I", true)
  | 1 => ("ResidueCover$Choices", "rests", "[I", true)
  | 2 => ("ResidueCover$Choices", "caughtAhead", "[[J", true)
  | 3 => ("ResidueCover$Choices", "many", "I", false)
  | 4 => ("ResidueCover$Choices", "sort", "I", false)
  | _ => ("ResidueCover$Choices", "span", "I", false)
def tyX0 : Nat → FieldType := fun k => match k with
  | 0 => .array .int
  | 1 => .array .int
  | 2 => .array (.array .long)
  | 3 => .int
  | 4 => .int
  | _ => .int
theorem nmX0 : ∀ a, a < 6 → ∀ b, b < 6 → a ≠ b → (TX0 a).2.1 ≠ (TX0 b).2.1 := by decide +kernel
theorem tyX0_ok : ∀ k, k < 6 → parseFieldDescriptor (TX0 k).2.2.1 = some (tyX0 k) := by decide +kernel
abbrev cX0_init : ByteArray := prog_2_method_1_code
def yX0_init : MethodName := ⟨RX0, "<init>", "()V"⟩
abbrev cX0_takeModuli : ByteArray := prog_2_method_2_code
def yX0_takeModuli : MethodName := ⟨RX0, "takeModuli", "(LResidueCover$Tray;I)Z"⟩
abbrev cX0_product : ByteArray := prog_2_method_3_code
def yX0_product : MethodName := ⟨RX0, "product", "()J"⟩
abbrev cX0_countWays : ByteArray := prog_2_method_4_code
def yX0_countWays : MethodName := ⟨RX0, "countWays", "(I)I"⟩
abbrev cX0_findFirst : ByteArray := prog_2_method_5_code
def yX0_findFirst : MethodName := ⟨RX0, "findFirst", "(I)Z"⟩
abbrev cX0_restAt : ByteArray := prog_2_method_6_code
def yX0_restAt : MethodName := ⟨RX0, "restAt", "(I)I"⟩
abbrev cX0_begin : ByteArray := prog_2_method_7_code
def yX0_begin : MethodName := ⟨RX0, "begin", "(I)V"⟩
abbrev cX0_waysFrom : ByteArray := prog_2_method_8_code
def yX0_waysFrom : MethodName := ⟨RX0, "waysFrom", "(LResidueCover$Choices;IZ)I"⟩
abbrev cX0_lay : ByteArray := prog_2_method_9_code
def yX0_lay : MethodName := ⟨RX0, "lay", "(II)Z"⟩
abbrev cX0_isAllCaught : ByteArray := prog_2_method_10_code
def yX0_isAllCaught : MethodName := ⟨RX0, "isAllCaught", "(I)Z"⟩
def RX1 : String := "ResidueCover$Classes"
def TX1 : u_T := fun k => match k with
  | 0 => ("ResidueCover$Classes", "rest", "[I", true)
  | 1 => ("ResidueCover$Classes", "modulus", "[I", true)
  | 2 => ("ResidueCover$Classes", "name", "[J", true)
  | 3 => ("ResidueCover$Classes", "count", "I", false)
  | 4 => ("ResidueCover$Classes", "on", "I", false)
  | _ => ("ResidueCover$Classes", "odds", "I", false)
def tyX1 : Nat → FieldType := fun k => match k with
  | 0 => .array .int
  | 1 => .array .int
  | 2 => .array .long
  | 3 => .int
  | 4 => .int
  | _ => .int
theorem nmX1 : ∀ a, a < 6 → ∀ b, b < 6 → a ≠ b → (TX1 a).2.1 ≠ (TX1 b).2.1 := by decide +kernel
theorem tyX1_ok : ∀ k, k < 6 → parseFieldDescriptor (TX1 k).2.2.1 = some (tyX1 k) := by decide +kernel
abbrev cX1_init : ByteArray := prog_3_method_1_code
def yX1_init : MethodName := ⟨RX1, "<init>", "()V"⟩
abbrev cX1_clear : ByteArray := prog_3_method_2_code
def yX1_clear : MethodName := ⟨RX1, "clear", "()V"⟩
abbrev cX1_copyFrom : ByteArray := prog_3_method_3_code
def yX1_copyFrom : MethodName := ⟨RX1, "copyFrom", "(LResidueCover$Classes;)V"⟩
abbrev cX1_isThere : ByteArray := prog_3_method_4_code
def yX1_isThere : MethodName := ⟨RX1, "isThere", "(I)Z"⟩
abbrev cX1_isOn : ByteArray := prog_3_method_5_code
def yX1_isOn : MethodName := ⟨RX1, "isOn", "(I)Z"⟩
abbrev cX1_find : ByteArray := prog_3_method_6_code
def yX1_find : MethodName := ⟨RX1, "find", "(J)I"⟩
abbrev cX1_append : ByteArray := prog_3_method_7_code
def yX1_append : MethodName := ⟨RX1, "append", "(IIZJ)V"⟩
abbrev cX1_remove : ByteArray := prog_3_method_8_code
def yX1_remove : MethodName := ⟨RX1, "remove", "(I)V"⟩
abbrev cX1_flip : ByteArray := prog_3_method_9_code
def yX1_flip : MethodName := ⟨RX1, "flip", "(I)V"⟩
abbrev cX1_slide : ByteArray := prog_3_method_10_code
def yX1_slide : MethodName := ⟨RX1, "slide", "(I)V"⟩
abbrev cX1_stretch : ByteArray := prog_3_method_11_code
def yX1_stretch : MethodName := ⟨RX1, "stretch", "(I)V"⟩
abbrev cX1_partTrouble : ByteArray := prog_3_method_12_code
def yX1_partTrouble : MethodName := ⟨RX1, "partTrouble", "(II)I"⟩
abbrev cX1_part : ByteArray := prog_3_method_13_code
def yX1_part : MethodName := ⟨RX1, "part", "(II)V"⟩
abbrev cX1_partsWith : ByteArray := prog_3_method_14_code
def yX1_partsWith : MethodName := ⟨RX1, "partsWith", "(II)I"⟩
abbrev cX1_firstLike : ByteArray := prog_3_method_15_code
def yX1_firstLike : MethodName := ⟨RX1, "firstLike", "(II)I"⟩
abbrev cX1_merge : ByteArray := prog_3_method_16_code
def yX1_merge : MethodName := ⟨RX1, "merge", "(III)V"⟩
abbrev cX1_greatestModulus : ByteArray := prog_3_method_17_code
def yX1_greatestModulus : MethodName := ⟨RX1, "greatestModulus", "()I"⟩
abbrev cX1_spanOf : ByteArray := prog_3_method_18_code
def yX1_spanOf : MethodName := ⟨RX1, "spanOf", "(I)I"⟩
abbrev cX1_takes : ByteArray := prog_3_method_19_code
def yX1_takes : MethodName := ⟨RX1, "takes", "(II)Z"⟩
abbrev cX1_catchers : ByteArray := prog_3_method_20_code
def yX1_catchers : MethodName := ⟨RX1, "catchers", "(I)I"⟩
abbrev cX1_leastModulusOf : ByteArray := prog_3_method_21_code
def yX1_leastModulusOf : MethodName := ⟨RX1, "leastModulusOf", "(I)I"⟩
abbrev cX1_touches : ByteArray := prog_3_method_22_code
def yX1_touches : MethodName := ⟨RX1, "touches", "(III)Z"⟩
abbrev cX1_touching : ByteArray := prog_3_method_23_code
def yX1_touching : MethodName := ⟨RX1, "touching", "(III)I"⟩
abbrev cX1_anyModulusDivides : ByteArray := prog_3_method_24_code
def yX1_anyModulusDivides : MethodName := ⟨RX1, "anyModulusDivides", "(II)Z"⟩
abbrev cX1_leastOfBoth : ByteArray := prog_3_method_25_code
def yX1_leastOfBoth : MethodName := ⟨RX1, "leastOfBoth", "(II)I"⟩
abbrev cX1_couples : ByteArray := prog_3_method_26_code
def yX1_couples : MethodName := ⟨RX1, "couples", "()I"⟩
abbrev cX1_allUnlike : ByteArray := prog_3_method_27_code
def yX1_allUnlike : MethodName := ⟨RX1, "allUnlike", "()Z"⟩
abbrev cX1_caughtTimes : ByteArray := prog_3_method_28_code
def yX1_caughtTimes : MethodName := ⟨RX1, "caughtTimes", "(I)I"⟩
def RX2 : String := "ResidueCover$Days"
def TX2 : u_T := fun k => match k with
  | 0 => ("ResidueCover$Days", "kind", "[I", true)
  | 1 => ("ResidueCover$Days", "test", "[I", true)
  | 2 => ("ResidueCover$Days", "sign", "[I", true)
  | 3 => ("ResidueCover$Days", "who", "[I", true)
  | 4 => ("ResidueCover$Days", "number", "[I", true)
  | 5 => ("ResidueCover$Days", "partner", "[I", true)
  | 6 => ("ResidueCover$Days", "count", "I", false)
  | 7 => ("ResidueCover$Days", "steps", "I", false)
  | _ => ("ResidueCover$Days", "there", "Z", false)
def tyX2 : Nat → FieldType := fun k => match k with
  | 0 => .array .int
  | 1 => .array .int
  | 2 => .array .int
  | 3 => .array .int
  | 4 => .array .int
  | 5 => .array .int
  | 6 => .int
  | 7 => .int
  | _ => .boolean
theorem nmX2 : ∀ a, a < 9 → ∀ b, b < 9 → a ≠ b → (TX2 a).2.1 ≠ (TX2 b).2.1 := by decide +kernel
theorem tyX2_ok : ∀ k, k < 9 → parseFieldDescriptor (TX2 k).2.2.1 = some (tyX2 k) := by decide +kernel
abbrev cX2_init : ByteArray := prog_4_method_1_code
def yX2_init : MethodName := ⟨RX2, "<init>", "()V"⟩
abbrev cX2_clear : ByteArray := prog_4_method_2_code
def yX2_clear : MethodName := ⟨RX2, "clear", "()V"⟩
abbrev cX2_copyFrom : ByteArray := prog_4_method_3_code
def yX2_copyFrom : MethodName := ⟨RX2, "copyFrom", "(LResidueCover$Days;)V"⟩
abbrev cX2_append : ByteArray := prog_4_method_4_code
def yX2_append : MethodName := ⟨RX2, "append", "(I)I"⟩
abbrev cX2_pair : ByteArray := prog_4_method_5_code
def yX2_pair : MethodName := ⟨RX2, "pair", "(II)V"⟩
def RX3 : String := "ResidueCover$DaysText"
def TX3 : u_T := fun k => match k with
  | _ => ("", "", "", false)
def tyX3 : Nat → FieldType := fun k => match k with
  | _ => .int
theorem nmX3 : ∀ a, a < 0 → ∀ b, b < 0 → a ≠ b → (TX3 a).2.1 ≠ (TX3 b).2.1 := by decide +kernel
theorem tyX3_ok : ∀ k, k < 0 → parseFieldDescriptor (TX3 k).2.2.1 = some (tyX3 k) := by decide +kernel
abbrev cX3_take : ByteArray := prog_5_method_2_code
def yX3_take : MethodName := ⟨RX3, "take", "(LResidueCover$Reader;LResidueCover$Classes;LResidueCover$Days;)Z"⟩
abbrev cX3_innermostBehind : ByteArray := prog_5_method_3_code
def yX3_innermostBehind : MethodName := ⟨RX3, "innermostBehind", "(LResidueCover$Days;II)I"⟩
abbrev cX3_depthOf : ByteArray := prog_5_method_4_code
def yX3_depthOf : MethodName := ⟨RX3, "depthOf", "(LResidueCover$Days;I)I"⟩
abbrev cX3_isOpener : ByteArray := prog_5_method_5_code
def yX3_isOpener : MethodName := ⟨RX3, "isOpener", "(I)Z"⟩
abbrev cX3_isStep : ByteArray := prog_5_method_6_code
def yX3_isStep : MethodName := ⟨RX3, "isStep", "(I)Z"⟩
abbrev cX3_takeOne : ByteArray := prog_5_method_7_code
def yX3_takeOne : MethodName := ⟨RX3, "takeOne", "(LResidueCover$Reader;LResidueCover$Classes;LResidueCover$Days;I)Z"⟩
abbrev cX3_takeRest : ByteArray := prog_5_method_8_code
def yX3_takeRest : MethodName := ⟨RX3, "takeRest", "(LResidueCover$Reader;LResidueCover$Classes;LResidueCover$Days;I)Z"⟩
abbrev cX3_takeTest : ByteArray := prog_5_method_9_code
def yX3_takeTest : MethodName := ⟨RX3, "takeTest", "(LResidueCover$Reader;LResidueCover$Classes;LResidueCover$Days;I)Z"⟩
abbrev cX3_takeSign : ByteArray := prog_5_method_10_code
def yX3_takeSign : MethodName := ⟨RX3, "takeSign", "(LResidueCover$Reader;LResidueCover$Days;I)Z"⟩
abbrev cX3_takeWho : ByteArray := prog_5_method_11_code
def yX3_takeWho : MethodName := ⟨RX3, "takeWho", "(LResidueCover$Reader;LResidueCover$Classes;LResidueCover$Days;I)Z"⟩
def RX4 : String := "ResidueCover$Game"
def TX4 : u_T := fun k => match k with
  | _ => ("", "", "", false)
def tyX4 : Nat → FieldType := fun k => match k with
  | _ => .int
theorem nmX4 : ∀ a, a < 0 → ∀ b, b < 0 → a ≠ b → (TX4 a).2.1 ≠ (TX4 b).2.1 := by decide +kernel
theorem tyX4_ok : ∀ k, k < 0 → parseFieldDescriptor (TX4 k).2.2.1 = some (tyX4 k) := by decide +kernel
abbrev cX4_worth : ByteArray := prog_6_method_2_code
def yX4_worth : MethodName := ⟨RX4, "worth", "(LResidueCover$Classes;LResidueCover$Sieve;IIZ)I"⟩
abbrev cX4_bestSwitch : ByteArray := prog_6_method_3_code
def yX4_bestSwitch : MethodName := ⟨RX4, "bestSwitch", "(LResidueCover$Classes;LResidueCover$Sieve;I)I"⟩
def RX5 : String := "ResidueCover$Life"
def TX5 : u_T := fun k => match k with
  | 0 => ("ResidueCover$Life", "roundsLeft", "[I", true)
  | 1 => ("ResidueCover$Life", "lived", "Z", false)
  | 2 => ("ResidueCover$Life", "done", "I", false)
  | 3 => ("ResidueCover$Life", "missed", "I", false)
  | 4 => ("ResidueCover$Life", "becameOn", "I", false)
  | 5 => ("ResidueCover$Life", "becameOff", "I", false)
  | 6 => ("ResidueCover$Life", "slides", "I", false)
  | 7 => ("ResidueCover$Life", "cutShort", "Z", false)
  | _ => ("ResidueCover$Life", "seed", "I", false)
def tyX5 : Nat → FieldType := fun k => match k with
  | 0 => .array .int
  | 1 => .boolean
  | 2 => .int
  | 3 => .int
  | 4 => .int
  | 5 => .int
  | 6 => .int
  | 7 => .boolean
  | _ => .int
theorem nmX5 : ∀ a, a < 9 → ∀ b, b < 9 → a ≠ b → (TX5 a).2.1 ≠ (TX5 b).2.1 := by decide +kernel
theorem tyX5_ok : ∀ k, k < 9 → parseFieldDescriptor (TX5 k).2.2.1 = some (tyX5 k) := by decide +kernel
abbrev cX5_init : ByteArray := prog_7_method_1_code
def yX5_init : MethodName := ⟨RX5, "<init>", "()V"⟩
abbrev cX5_run : ByteArray := prog_7_method_2_code
def yX5_run : MethodName := ⟨RX5, "run", "(LResidueCover$Classes;LResidueCover$Days;ILResidueCover$Sieve;)V"⟩
abbrev cX5_follow : ByteArray := prog_7_method_3_code
def yX5_follow : MethodName := ⟨RX5, "follow", "(LResidueCover$Classes;LResidueCover$Days;ILResidueCover$Sieve;)I"⟩
abbrev cX5_behindEnd : ByteArray := prog_7_method_4_code
def yX5_behindEnd : MethodName := ⟨RX5, "behindEnd", "(LResidueCover$Days;I)I"⟩
abbrev cX5_isSo : ByteArray := prog_7_method_5_code
def yX5_isSo : MethodName := ⟨RX5, "isSo", "(LResidueCover$Classes;LResidueCover$Days;ILResidueCover$Sieve;)Z"⟩
abbrev cX5_compares : ByteArray := prog_7_method_6_code
def yX5_compares : MethodName := ⟨RX5, "compares", "(III)Z"⟩
abbrev cX5_act : ByteArray := prog_7_method_7_code
def yX5_act : MethodName := ⟨RX5, "act", "(LResidueCover$Classes;LResidueCover$Days;I)Z"⟩
abbrev cX5_flip : ByteArray := prog_7_method_8_code
def yX5_flip : MethodName := ⟨RX5, "flip", "(LResidueCover$Classes;I)Z"⟩
abbrev cX5_slide : ByteArray := prog_7_method_9_code
def yX5_slide : MethodName := ⟨RX5, "slide", "(LResidueCover$Classes;I)Z"⟩
abbrev cX5_partIfItCan : ByteArray := prog_7_method_10_code
def yX5_partIfItCan : MethodName := ⟨RX5, "partIfItCan", "(LResidueCover$Classes;II)Z"⟩
abbrev cX5_chance : ByteArray := prog_7_method_11_code
def yX5_chance : MethodName := ⟨RX5, "chance", "(LResidueCover$Classes;)Z"⟩
abbrev cX5_draw : ByteArray := prog_7_method_12_code
def yX5_draw : MethodName := ⟨RX5, "draw", "(I)I"⟩
def RX6 : String := "ResidueCover$Reader"
def TX6 : u_T := fun k => match k with
  | 0 => ("ResidueCover$Reader", "tape", "[B", true)
  | 1 => ("ResidueCover$Reader", "fed", "I", false)
  | 2 => ("ResidueCover$Reader", "length", "I", false)
  | 3 => ("ResidueCover$Reader", "sorts", "[I", true)
  | 4 => ("ResidueCover$Reader", "places", "[I", true)
  | 5 => ("ResidueCover$Reader", "values", "[J", true)
  | 6 => ("ResidueCover$Reader", "tokens", "I", false)
  | 7 => ("ResidueCover$Reader", "at", "I", false)
  | 8 => ("ResidueCover$Reader", "taken", "J", false)
  | 9 => ("ResidueCover$Reader", "fault", "I", false)
  | _ => ("ResidueCover$Reader", "faultPlace", "I", false)
def tyX6 : Nat → FieldType := fun k => match k with
  | 0 => .array .byte
  | 1 => .int
  | 2 => .int
  | 3 => .array .int
  | 4 => .array .int
  | 5 => .array .long
  | 6 => .int
  | 7 => .int
  | 8 => .long
  | 9 => .int
  | _ => .int
theorem nmX6 : ∀ a, a < 11 → ∀ b, b < 11 → a ≠ b → (TX6 a).2.1 ≠ (TX6 b).2.1 := by decide +kernel
theorem tyX6_ok : ∀ k, k < 11 → parseFieldDescriptor (TX6 k).2.2.1 = some (tyX6 k) := by decide +kernel
abbrev cX6_init : ByteArray := prog_8_method_1_code
def yX6_init : MethodName := ⟨RX6, "<init>", "()V"⟩
abbrev cX6_append : ByteArray := prog_8_method_2_code
def yX6_append : MethodName := ⟨RX6, "append", "(I)V"⟩
abbrev cX6_begin : ByteArray := prog_8_method_3_code
def yX6_begin : MethodName := ⟨RX6, "begin", "(I)V"⟩
abbrev cX6_keep : ByteArray := prog_8_method_4_code
def yX6_keep : MethodName := ⟨RX6, "keep", "(IIJ)V"⟩
abbrev cX6_skipBlanks : ByteArray := prog_8_method_5_code
def yX6_skipBlanks : MethodName := ⟨RX6, "skipBlanks", "(I)I"⟩
abbrev cX6_findToken : ByteArray := prog_8_method_6_code
def yX6_findToken : MethodName := ⟨RX6, "findToken", "(I)I"⟩
abbrev cX6_findWord : ByteArray := prog_8_method_7_code
def yX6_findWord : MethodName := ⟨RX6, "findWord", "(I)I"⟩
abbrev cX6_findNumber : ByteArray := prog_8_method_8_code
def yX6_findNumber : MethodName := ⟨RX6, "findNumber", "(I)I"⟩
abbrev cX6_wordSort : ByteArray := prog_8_method_9_code
def yX6_wordSort : MethodName := ⟨RX6, "wordSort", "(II)I"⟩
abbrev cX6_isKeptWord : ByteArray := prog_8_method_10_code
def yX6_isKeptWord : MethodName := ⟨RX6, "isKeptWord", "(III)Z"⟩
abbrev cX6_isLetter : ByteArray := prog_8_method_11_code
def yX6_isLetter : MethodName := ⟨RX6, "isLetter", "(B)Z"⟩
abbrev cX6_isDigit : ByteArray := prog_8_method_12_code
def yX6_isDigit : MethodName := ⟨RX6, "isDigit", "(B)Z"⟩
abbrev cX6_signOf : ByteArray := prog_8_method_13_code
def yX6_signOf : MethodName := ⟨RX6, "signOf", "(B)I"⟩
abbrev cX6_token : ByteArray := prog_8_method_14_code
def yX6_token : MethodName := ⟨RX6, "token", "()I"⟩
abbrev cX6_value : ByteArray := prog_8_method_15_code
def yX6_value : MethodName := ⟨RX6, "value", "()J"⟩
abbrev cX6_step : ByteArray := prog_8_method_16_code
def yX6_step : MethodName := ⟨RX6, "step", "()V"⟩
abbrev cX6_blame : ByteArray := prog_8_method_17_code
def yX6_blame : MethodName := ⟨RX6, "blame", "(I)Z"⟩
abbrev cX6_take : ByteArray := prog_8_method_18_code
def yX6_take : MethodName := ⟨RX6, "take", "(I)Z"⟩
abbrev cX6_takeNumber : ByteArray := prog_8_method_19_code
def yX6_takeNumber : MethodName := ⟨RX6, "takeNumber", "(II)Z"⟩
abbrev cX6_takenNumber : ByteArray := prog_8_method_20_code
def yX6_takenNumber : MethodName := ⟨RX6, "takenNumber", "()I"⟩
def RX7 : String := "ResidueCover$Sieve"
def TX7 : u_T := fun k => match k with
  | 0 => ("ResidueCover$Sieve", "once", "[J", true)
  | 1 => ("ResidueCover$Sieve", "twice", "[J", true)
  | 2 => ("ResidueCover$Sieve", "failing", "[J", true)
  | 3 => ("ResidueCover$Sieve", "span", "I", false)
  | _ => ("ResidueCover$Sieve", "words", "I", false)
def tyX7 : Nat → FieldType := fun k => match k with
  | 0 => .array .long
  | 1 => .array .long
  | 2 => .array .long
  | 3 => .int
  | _ => .int
theorem nmX7 : ∀ a, a < 5 → ∀ b, b < 5 → a ≠ b → (TX7 a).2.1 ≠ (TX7 b).2.1 := by decide +kernel
theorem tyX7_ok : ∀ k, k < 5 → parseFieldDescriptor (TX7 k).2.2.1 = some (tyX7 k) := by decide +kernel
abbrev cX7_init : ByteArray := prog_9_method_1_code
def yX7_init : MethodName := ⟨RX7, "<init>", "()V"⟩
abbrev cX7_fill : ByteArray := prog_9_method_2_code
def yX7_fill : MethodName := ⟨RX7, "fill", "(LResidueCover$Classes;I)Z"⟩
abbrev cX7_lay : ByteArray := prog_9_method_3_code
def yX7_lay : MethodName := ⟨RX7, "lay", "(II)V"⟩
abbrev cX7_openIn : ByteArray := prog_9_method_4_code
def yX7_openIn : MethodName := ⟨RX7, "openIn", "(I)J"⟩
abbrev cX7_countGaps : ByteArray := prog_9_method_5_code
def yX7_countGaps : MethodName := ⟨RX7, "countGaps", "()I"⟩
abbrev cX7_findGap : ByteArray := prog_9_method_6_code
def yX7_findGap : MethodName := ⟨RX7, "findGap", "(I)I"⟩
abbrev cX7_placeOfBit : ByteArray := prog_9_method_7_code
def yX7_placeOfBit : MethodName := ⟨RX7, "placeOfBit", "(JI)I"⟩
abbrev cX7_countOnlyBy : ByteArray := prog_9_method_8_code
def yX7_countOnlyBy : MethodName := ⟨RX7, "countOnlyBy", "(LResidueCover$Classes;I)I"⟩
abbrev cX7_needlessOf : ByteArray := prog_9_method_9_code
def yX7_needlessOf : MethodName := ⟨RX7, "needlessOf", "(LResidueCover$Classes;)I"⟩
abbrev cX7_thickestNumber : ByteArray := prog_9_method_10_code
def yX7_thickestNumber : MethodName := ⟨RX7, "thickestNumber", "(LResidueCover$Classes;)I"⟩
abbrev cX7_leastSet : ByteArray := prog_9_method_11_code
def yX7_leastSet : MethodName := ⟨RX7, "leastSet", "(LResidueCover$Classes;)I"⟩
abbrev cX7_findFailing : ByteArray := prog_9_method_12_code
def yX7_findFailing : MethodName := ⟨RX7, "findFailing", "(LResidueCover$Classes;I)V"⟩
abbrev cX7_leastTurn : ByteArray := prog_9_method_13_code
def yX7_leastTurn : MethodName := ⟨RX7, "leastTurn", "()I"⟩
abbrev cX7_comesAgainBy : ByteArray := prog_9_method_14_code
def yX7_comesAgainBy : MethodName := ⟨RX7, "comesAgainBy", "(I)Z"⟩
def RX8 : String := "ResidueCover$SystemText"
def TX8 : u_T := fun k => match k with
  | _ => ("", "", "", false)
def tyX8 : Nat → FieldType := fun k => match k with
  | _ => .int
theorem nmX8 : ∀ a, a < 0 → ∀ b, b < 0 → a ≠ b → (TX8 a).2.1 ≠ (TX8 b).2.1 := by decide +kernel
theorem tyX8_ok : ∀ k, k < 0 → parseFieldDescriptor (TX8 k).2.2.1 = some (tyX8 k) := by decide +kernel
abbrev cX8_take : ByteArray := prog_10_method_2_code
def yX8_take : MethodName := ⟨RX8, "take", "(LResidueCover$Reader;LResidueCover$Classes;)Z"⟩
abbrev cX8_takeOdds : ByteArray := prog_10_method_3_code
def yX8_takeOdds : MethodName := ⟨RX8, "takeOdds", "(LResidueCover$Reader;LResidueCover$Classes;)Z"⟩
abbrev cX8_takeClass : ByteArray := prog_10_method_4_code
def yX8_takeClass : MethodName := ⟨RX8, "takeClass", "(LResidueCover$Reader;LResidueCover$Classes;)Z"⟩
def RX9 : String := "ResidueCover$Tray"
def TX9 : u_T := fun k => match k with
  | 0 => ("ResidueCover$Tray", "row", "[J", true)
  | 1 => ("ResidueCover$Tray", "sort", "I", false)
  | _ => ("ResidueCover$Tray", "size", "I", false)
def tyX9 : Nat → FieldType := fun k => match k with
  | 0 => .array .long
  | 1 => .int
  | _ => .int
theorem nmX9 : ∀ a, a < 3 → ∀ b, b < 3 → a ≠ b → (TX9 a).2.1 ≠ (TX9 b).2.1 := by decide +kernel
theorem tyX9_ok : ∀ k, k < 3 → parseFieldDescriptor (TX9 k).2.2.1 = some (tyX9 k) := by decide +kernel
abbrev cX9_init : ByteArray := prog_11_method_1_code
def yX9_init : MethodName := ⟨RX9, "<init>", "()V"⟩
abbrev cX9_lay : ByteArray := prog_11_method_2_code
def yX9_lay : MethodName := ⟨RX9, "lay", "(II)V"⟩
abbrev cX9_isMissing : ByteArray := prog_11_method_3_code
def yX9_isMissing : MethodName := ⟨RX9, "isMissing", "()Z"⟩
abbrev cX9_holds : ByteArray := prog_11_method_4_code
def yX9_holds : MethodName := ⟨RX9, "holds", "(II)Z"⟩
abbrev cX9_at : ByteArray := prog_11_method_5_code
def yX9_at : MethodName := ⟨RX9, "at", "(I)J"⟩
abbrev cX9_put : ByteArray := prog_11_method_6_code
def yX9_put : MethodName := ⟨RX9, "put", "(IJ)V"⟩
abbrev cX9_cut : ByteArray := prog_11_method_7_code
def yX9_cut : MethodName := ⟨RX9, "cut", "(J)J"⟩
def RX10 : String := "ResidueCover$Tree"
def TX10 : u_T := fun k => match k with
  | 0 => ("ResidueCover$Tree", "caughtLeaves", "I", false)
  | 1 => ("ResidueCover$Tree", "freeLeaves", "I", false)
  | 2 => ("ResidueCover$Tree", "nodes", "I", false)
  | _ => ("ResidueCover$Tree", "widest", "I", false)
def tyX10 : Nat → FieldType := fun k => match k with
  | 0 => .int
  | 1 => .int
  | 2 => .int
  | _ => .int
theorem nmX10 : ∀ a, a < 4 → ∀ b, b < 4 → a ≠ b → (TX10 a).2.1 ≠ (TX10 b).2.1 := by decide +kernel
theorem tyX10_ok : ∀ k, k < 4 → parseFieldDescriptor (TX10 k).2.2.1 = some (tyX10 k) := by decide +kernel
abbrev cX10_init : ByteArray := prog_12_method_1_code
def yX10_init : MethodName := ⟨RX10, "<init>", "()V"⟩
abbrev cX10_grow : ByteArray := prog_12_method_2_code
def yX10_grow : MethodName := ⟨RX10, "grow", "(LResidueCover$Classes;I)V"⟩
abbrev cX10_visit : ByteArray := prog_12_method_3_code
def yX10_visit : MethodName := ⟨RX10, "visit", "(LResidueCover$Tree;LResidueCover$Classes;IIIII)V"⟩
abbrev cX10_leafWith : ByteArray := prog_12_method_4_code
def yX10_leafWith : MethodName := ⟨RX10, "leafWith", "(LResidueCover$Classes;II)I"⟩
def RX11 : String := "ResidueCover"
def TX11 : u_T := fun k => match k with
  | 0 => ("ResidueCover", "status", "I", false)
  | 1 => ("ResidueCover", "top", "J", false)
  | 2 => ("ResidueCover", "bottom", "J", false)
  | 3 => ("ResidueCover", "trays", "[LResidueCover$Tray;", true)
  | 4 => ("ResidueCover", "reader", "LResidueCover$Reader;", true)
  | 5 => ("ResidueCover", "now", "LResidueCover$Classes;", true)
  | 6 => ("ResidueCover", "trial", "LResidueCover$Classes;", true)
  | 7 => ("ResidueCover", "days", "LResidueCover$Days;", true)
  | 8 => ("ResidueCover", "draft", "LResidueCover$Days;", true)
  | 9 => ("ResidueCover", "keptClasses", "[LResidueCover$Classes;", true)
  | 10 => ("ResidueCover", "keptDays", "[LResidueCover$Days;", true)
  | 11 => ("ResidueCover", "marks", "I", false)
  | 12 => ("ResidueCover", "sieve", "LResidueCover$Sieve;", true)
  | 13 => ("ResidueCover", "tree", "LResidueCover$Tree;", true)
  | 14 => ("ResidueCover", "choices", "LResidueCover$Choices;", true)
  | 15 => ("ResidueCover", "life", "LResidueCover$Life;", true)
  | _ => ("ResidueCover", "trialLife", "LResidueCover$Life;", true)
def tyX11 : Nat → FieldType := fun k => match k with
  | 0 => .int
  | 1 => .long
  | 2 => .long
  | 3 => .array (.object "ResidueCover$Tray")
  | 4 => .object "ResidueCover$Reader"
  | 5 => .object "ResidueCover$Classes"
  | 6 => .object "ResidueCover$Classes"
  | 7 => .object "ResidueCover$Days"
  | 8 => .object "ResidueCover$Days"
  | 9 => .array (.object "ResidueCover$Classes")
  | 10 => .array (.object "ResidueCover$Days")
  | 11 => .int
  | 12 => .object "ResidueCover$Sieve"
  | 13 => .object "ResidueCover$Tree"
  | 14 => .object "ResidueCover$Choices"
  | 15 => .object "ResidueCover$Life"
  | _ => .object "ResidueCover$Life"
theorem nmX11 : ∀ a, a < 17 → ∀ b, b < 17 → a ≠ b → (TX11 a).2.1 ≠ (TX11 b).2.1 := by decide +kernel
theorem tyX11_ok : ∀ k, k < 17 → parseFieldDescriptor (TX11 k).2.2.1 = some (tyX11 k) := by decide +kernel
abbrev cX11_init : ByteArray := prog_1_method_1_code
def yX11_init : MethodName := ⟨RX11, "<init>", "()V"⟩
abbrev cX11_status : ByteArray := prog_1_method_2_code
def yX11_status : MethodName := ⟨RX11, "status", "()I"⟩
abbrev cX11_top : ByteArray := prog_1_method_3_code
def yX11_top : MethodName := ⟨RX11, "top", "()J"⟩
abbrev cX11_bottom : ByteArray := prog_1_method_4_code
def yX11_bottom : MethodName := ⟨RX11, "bottom", "()J"⟩
abbrev cX11_tray : ByteArray := prog_1_method_5_code
def yX11_tray : MethodName := ⟨RX11, "tray", "(III)Z"⟩
abbrev cX11_write : ByteArray := prog_1_method_6_code
def yX11_write : MethodName := ⟨RX11, "write", "(IIJ)Z"⟩
abbrev cX11_read : ByteArray := prog_1_method_7_code
def yX11_read : MethodName := ⟨RX11, "read", "(II)J"⟩
abbrev cX11_pour : ByteArray := prog_1_method_8_code
def yX11_pour : MethodName := ⟨RX11, "pour", "(IIIII)Z"⟩
abbrev cX11_pourTrouble : ByteArray := prog_1_method_9_code
def yX11_pourTrouble : MethodName := ⟨RX11, "pourTrouble", "(IIIII)I"⟩
abbrev cX11_trayTrouble : ByteArray := prog_1_method_10_code
def yX11_trayTrouble : MethodName := ⟨RX11, "trayTrouble", "(I)I"⟩
abbrev cX11_placeTrouble : ByteArray := prog_1_method_11_code
def yX11_placeTrouble : MethodName := ⟨RX11, "placeTrouble", "(II)I"⟩
abbrev cX11_feed : ByteArray := prog_1_method_12_code
def yX11_feed : MethodName := ⟨RX11, "feed", "(IIIII)I"⟩
abbrev cX11_system : ByteArray := prog_1_method_13_code
def yX11_system : MethodName := ⟨RX11, "system", "(I)I"⟩
abbrev cX11_days : ByteArray := prog_1_method_14_code
def yX11_days : MethodName := ⟨RX11, "days", "(I)I"⟩
abbrev cX11_fault : ByteArray := prog_1_method_15_code
def yX11_fault : MethodName := ⟨RX11, "fault", "(I)I"⟩
abbrev cX11_told : ByteArray := prog_1_method_16_code
def yX11_told : MethodName := ⟨RX11, "told", "(I)I"⟩
abbrev cX11_toldBySpan : ByteArray := prog_1_method_17_code
def yX11_toldBySpan : MethodName := ⟨RX11, "toldBySpan", "(I)I"⟩
abbrev cX11_classOf : ByteArray := prog_1_method_18_code
def yX11_classOf : MethodName := ⟨RX11, "classOf", "(II)I"⟩
abbrev cX11_caught : ByteArray := prog_1_method_19_code
def yX11_caught : MethodName := ⟨RX11, "caught", "(I)I"⟩
abbrev cX11_tightest : ByteArray := prog_1_method_20_code
def yX11_tightest : MethodName := ⟨RX11, "tightest", "(I)I"⟩
abbrev cX11_turn : ByteArray := prog_1_method_21_code
def yX11_turn : MethodName := ⟨RX11, "turn", "(I)I"⟩
abbrev cX11_add : ByteArray := prog_1_method_22_code
def yX11_add : MethodName := ⟨RX11, "add", "(II)I"⟩
abbrev cX11_drop : ByteArray := prog_1_method_23_code
def yX11_drop : MethodName := ⟨RX11, "drop", "(I)I"⟩
abbrev cX11_move : ByteArray := prog_1_method_24_code
def yX11_move : MethodName := ⟨RX11, "move", "(II)I"⟩
abbrev cX11_shift : ByteArray := prog_1_method_25_code
def yX11_shift : MethodName := ⟨RX11, "shift", "(I)Z"⟩
abbrev cX11_spread : ByteArray := prog_1_method_26_code
def yX11_spread : MethodName := ⟨RX11, "spread", "(I)I"⟩
abbrev cX11_split : ByteArray := prog_1_method_27_code
def yX11_split : MethodName := ⟨RX11, "split", "(II)I"⟩
abbrev cX11_join : ByteArray := prog_1_method_28_code
def yX11_join : MethodName := ⟨RX11, "join", "(II)I"⟩
abbrev cX11_rule : ByteArray := prog_1_method_29_code
def yX11_rule : MethodName := ⟨RX11, "rule", "(I)Z"⟩
abbrev cX11_gapAt : ByteArray := prog_1_method_30_code
def yX11_gapAt : MethodName := ⟨RX11, "gapAt", "(I)I"⟩
abbrev cX11_gaps : ByteArray := prog_1_method_31_code
def yX11_gaps : MethodName := ⟨RX11, "gaps", "()Z"⟩
abbrev cX11_weight : ByteArray := prog_1_method_32_code
def yX11_weight : MethodName := ⟨RX11, "weight", "()Z"⟩
abbrev cX11_alone : ByteArray := prog_1_method_33_code
def yX11_alone : MethodName := ⟨RX11, "alone", "(I)Z"⟩
abbrev cX11_needless : ByteArray := prog_1_method_34_code
def yX11_needless : MethodName := ⟨RX11, "needless", "()I"⟩
abbrev cX11_fewest : ByteArray := prog_1_method_35_code
def yX11_fewest : MethodName := ⟨RX11, "fewest", "()I"⟩
abbrev cX11_fewestSet : ByteArray := prog_1_method_36_code
def yX11_fewestSet : MethodName := ⟨RX11, "fewestSet", "()I"⟩
abbrev cX11_meet : ByteArray := prog_1_method_37_code
def yX11_meet : MethodName := ⟨RX11, "meet", "(II)I"⟩
abbrev cX11_thick : ByteArray := prog_1_method_38_code
def yX11_thick : MethodName := ⟨RX11, "thick", "()I"⟩
abbrev cX11_ask : ByteArray := prog_1_method_39_code
def yX11_ask : MethodName := ⟨RX11, "ask", "()I"⟩
abbrev cX11_turnsBy : ByteArray := prog_1_method_40_code
def yX11_turnsBy : MethodName := ⟨RX11, "turnsBy", "()I"⟩
abbrev cX11_sieved : ByteArray := prog_1_method_41_code
def yX11_sieved : MethodName := ⟨RX11, "sieved", "()Z"⟩
abbrev cX11_tree : ByteArray := prog_1_method_42_code
def yX11_tree : MethodName := ⟨RX11, "tree", "(I)I"⟩
abbrev cX11_leafOf : ByteArray := prog_1_method_43_code
def yX11_leafOf : MethodName := ⟨RX11, "leafOf", "(I)I"⟩
abbrev cX11_choices : ByteArray := prog_1_method_44_code
def yX11_choices : MethodName := ⟨RX11, "choices", "(III)I"⟩
abbrev cX11_choiceAt : ByteArray := prog_1_method_45_code
def yX11_choiceAt : MethodName := ⟨RX11, "choiceAt", "(IIII)I"⟩
abbrev cX11_choiceTrouble : ByteArray := prog_1_method_46_code
def yX11_choiceTrouble : MethodName := ⟨RX11, "choiceTrouble", "(III)I"⟩
abbrev cX11_game : ByteArray := prog_1_method_47_code
def yX11_game : MethodName := ⟨RX11, "game", "(I)I"⟩
abbrev cX11_moveOf : ByteArray := prog_1_method_48_code
def yX11_moveOf : MethodName := ⟨RX11, "moveOf", "(I)I"⟩
abbrev cX11_uncaught : ByteArray := prog_1_method_49_code
def yX11_uncaught : MethodName := ⟨RX11, "uncaught", "(II)Z"⟩
abbrev cX11_copySystem : ByteArray := prog_1_method_50_code
def yX11_copySystem : MethodName := ⟨RX11, "copySystem", "(I)I"⟩
abbrev cX11_live : ByteArray := prog_1_method_51_code
def yX11_live : MethodName := ⟨RX11, "live", "(I)I"⟩
abbrev cX11_lived : ByteArray := prog_1_method_52_code
def yX11_lived : MethodName := ⟨RX11, "lived", "(I)I"⟩
abbrev cX11_mean : ByteArray := prog_1_method_53_code
def yX11_mean : MethodName := ⟨RX11, "mean", "(II)Z"⟩
abbrev cX11_mark : ByteArray := prog_1_method_54_code
def yX11_mark : MethodName := ⟨RX11, "mark", "()I"⟩
abbrev cX11_undo : ByteArray := prog_1_method_55_code
def yX11_undo : MethodName := ⟨RX11, "undo", "()I"⟩
abbrev cX11_refuse : ByteArray := prog_1_method_56_code
def yX11_refuse : MethodName := ⟨RX11, "refuse", "(I)I"⟩
abbrev cX11_deny : ByteArray := prog_1_method_57_code
def yX11_deny : MethodName := ⟨RX11, "deny", "(I)Z"⟩
abbrev cX11_answer : ByteArray := prog_1_method_58_code
def yX11_answer : MethodName := ⟨RX11, "answer", "(I)I"⟩
abbrev cX11_answerOrNone : ByteArray := prog_1_method_59_code
def yX11_answerOrNone : MethodName := ⟨RX11, "answerOrNone", "(I)I"⟩
abbrev cX11_agree : ByteArray := prog_1_method_60_code
def yX11_agree : MethodName := ⟨RX11, "agree", "()Z"⟩
abbrev cX11_tell : ByteArray := prog_1_method_61_code
def yX11_tell : MethodName := ⟨RX11, "tell", "(JJ)Z"⟩
abbrev cX11_within : ByteArray := prog_1_method_62_code
def yX11_within : MethodName := ⟨RX11, "within", "(JJJ)Z"⟩
abbrev cX11_isIn : ByteArray := prog_1_method_63_code
def yX11_isIn : MethodName := ⟨RX11, "isIn", "(II)Z"⟩
abbrev cX11_leftBy : ByteArray := prog_1_method_64_code
def yX11_leftBy : MethodName := ⟨RX11, "leftBy", "(II)I"⟩
abbrev cX11_partBy : ByteArray := prog_1_method_65_code
def yX11_partBy : MethodName := ⟨RX11, "partBy", "(JJ)J"⟩
abbrev cX11_partBy_ : ByteArray := prog_1_method_66_code
def yX11_partBy_ : MethodName := ⟨RX11, "partBy", "(II)I"⟩
abbrev cX11_commonDivisor : ByteArray := prog_1_method_67_code
def yX11_commonDivisor : MethodName := ⟨RX11, "commonDivisor", "(JJ)J"⟩
abbrev cX11_leastPrimeOf : ByteArray := prog_1_method_68_code
def yX11_leastPrimeOf : MethodName := ⟨RX11, "leastPrimeOf", "(I)I"⟩
abbrev cX11_power : ByteArray := prog_1_method_69_code
def yX11_power : MethodName := ⟨RX11, "power", "(JI)J"⟩
abbrev cX11_ways : ByteArray := prog_1_method_70_code
def yX11_ways : MethodName := ⟨RX11, "ways", "(II)J"⟩
abbrev cX11_combOf : ByteArray := prog_1_method_71_code
def yX11_combOf : MethodName := ⟨RX11, "combOf", "(I)J"⟩
abbrev cX11_wordOf : ByteArray := prog_1_method_72_code
def yX11_wordOf : MethodName := ⟨RX11, "wordOf", "(JIII)J"⟩
abbrev cX11_insideOf : ByteArray := prog_1_method_73_code
def yX11_insideOf : MethodName := ⟨RX11, "insideOf", "(II)J"⟩
abbrev cX11_hasBit : ByteArray := prog_1_method_74_code
def yX11_hasBit : MethodName := ⟨RX11, "hasBit", "([JI)Z"⟩
abbrev cX11_putBit : ByteArray := prog_1_method_75_code
def yX11_putBit : MethodName := ⟨RX11, "putBit", "([JI)V"⟩
abbrev cX11_wordsFor : ByteArray := prog_1_method_76_code
def yX11_wordsFor : MethodName := ⟨RX11, "wordsFor", "(I)I"⟩
def RX12 : String := "ResidueCoverModel"
def TX12 : u_T := fun k => match k with
  | 0 => ("ResidueCoverModel", "at", "[I", true)
  | 1 => ("ResidueCoverModel", "names", "[J", true)
  | 2 => ("ResidueCoverModel", "status", "I", false)
  | 3 => ("ResidueCoverModel", "top", "J", false)
  | 4 => ("ResidueCoverModel", "bottom", "J", false)
  | 5 => ("ResidueCoverModel", "sort", "[I", true)
  | 6 => ("ResidueCoverModel", "trayMany", "[I", true)
  | 7 => ("ResidueCoverModel", "trays", "[J", true)
  | 8 => ("ResidueCoverModel", "tape", "[B", true)
  | 9 => ("ResidueCoverModel", "text", "[B", true)
  | 10 => ("ResidueCoverModel", "taped", "I", false)
  | 11 => ("ResidueCoverModel", "size", "I", false)
  | 12 => ("ResidueCoverModel", "token", "I", false)
  | 13 => ("ResidueCoverModel", "from", "I", false)
  | 14 => ("ResidueCoverModel", "end", "I", false)
  | 15 => ("ResidueCoverModel", "value", "I", false)
  | 16 => ("ResidueCoverModel", "faultKind", "I", false)
  | 17 => ("ResidueCoverModel", "faultPlace", "I", false)
  | 18 => ("ResidueCoverModel", "faults", "I", false)
  | 19 => ("ResidueCoverModel", "toldOdds", "Z", false)
  | 20 => ("ResidueCoverModel", "opened", "[I", true)
  | 21 => ("ResidueCoverModel", "depth", "I", false)
  | 22 => ("ResidueCoverModel", "counted", "I", false)
  | 23 => ("ResidueCoverModel", "span", "I", false)
  | 24 => ("ResidueCoverModel", "hits", "[I", true)
  | 25 => ("ResidueCoverModel", "within", "[Z", true)
  | 26 => ("ResidueCoverModel", "isNode", "[Z", true)
  | 27 => ("ResidueCoverModel", "treeBy", "[I", true)
  | 28 => ("ResidueCoverModel", "byBy", "[I", true)
  | 29 => ("ResidueCoverModel", "leftBy", "[I", true)
  | 30 => ("ResidueCoverModel", "bestFirst", "I", false)
  | 31 => ("ResidueCoverModel", "gapsBy", "[J", true)
  | 32 => ("ResidueCoverModel", "drawn", "I", false)
  | 33 => ("ResidueCoverModel", "ranSteps", "I", false)
  | 34 => ("ResidueCoverModel", "loops", "[I", true)
  | 35 => ("ResidueCoverModel", "ran", "[I", true)
  | 36 => ("ResidueCoverModel", "told1", "[I", true)
  | 37 => ("ResidueCoverModel", "isTold", "Z", false)
  | _ => ("ResidueCoverModel", "marks", "I", false)
def tyX12 : Nat → FieldType := fun k => match k with
  | 0 => .array .int
  | 1 => .array .long
  | 2 => .int
  | 3 => .long
  | 4 => .long
  | 5 => .array .int
  | 6 => .array .int
  | 7 => .array .long
  | 8 => .array .byte
  | 9 => .array .byte
  | 10 => .int
  | 11 => .int
  | 12 => .int
  | 13 => .int
  | 14 => .int
  | 15 => .int
  | 16 => .int
  | 17 => .int
  | 18 => .int
  | 19 => .boolean
  | 20 => .array .int
  | 21 => .int
  | 22 => .int
  | 23 => .int
  | 24 => .array .int
  | 25 => .array .boolean
  | 26 => .array .boolean
  | 27 => .array .int
  | 28 => .array .int
  | 29 => .array .int
  | 30 => .int
  | 31 => .array .long
  | 32 => .int
  | 33 => .int
  | 34 => .array .int
  | 35 => .array .int
  | 36 => .array .int
  | 37 => .boolean
  | _ => .int
theorem nmX12 : ∀ a, a < 39 → ∀ b, b < 39 → a ≠ b → (TX12 a).2.1 ≠ (TX12 b).2.1 := by decide +kernel
theorem tyX12_ok : ∀ k, k < 39 → parseFieldDescriptor (TX12 k).2.2.1 = some (tyX12 k) := by decide +kernel
abbrev cX12_init : ByteArray := prog_14_method_1_code
def yX12_init : MethodName := ⟨RX12, "<init>", "()V"⟩
abbrev cX12_plain : ByteArray := prog_14_method_2_code
def yX12_plain : MethodName := ⟨RX12, "plain", "(I)V"⟩
abbrev cX12_status : ByteArray := prog_14_method_3_code
def yX12_status : MethodName := ⟨RX12, "status", "()I"⟩
abbrev cX12_top : ByteArray := prog_14_method_4_code
def yX12_top : MethodName := ⟨RX12, "top", "()J"⟩
abbrev cX12_bottom : ByteArray := prog_14_method_5_code
def yX12_bottom : MethodName := ⟨RX12, "bottom", "()J"⟩
abbrev cX12_is : ByteArray := prog_14_method_6_code
def yX12_is : MethodName := ⟨RX12, "is", "(I)Z"⟩
abbrev cX12_refuse : ByteArray := prog_14_method_7_code
def yX12_refuse : MethodName := ⟨RX12, "refuse", "(I)I"⟩
abbrev cX12_gives : ByteArray := prog_14_method_8_code
def yX12_gives : MethodName := ⟨RX12, "gives", "(I)I"⟩
abbrev cX12_orNone : ByteArray := prog_14_method_9_code
def yX12_orNone : MethodName := ⟨RX12, "orNone", "(I)I"⟩
abbrev cX12_tellsBy : ByteArray := prog_14_method_10_code
def yX12_tellsBy : MethodName := ⟨RX12, "tellsBy", "(JJ)Z"⟩
abbrev cX12_isTray : ByteArray := prog_14_method_11_code
def yX12_isTray : MethodName := ⟨RX12, "isTray", "(I)Z"⟩
abbrev cX12_cut : ByteArray := prog_14_method_12_code
def yX12_cut : MethodName := ⟨RX12, "cut", "(JI)J"⟩
abbrev cX12_tray : ByteArray := prog_14_method_13_code
def yX12_tray : MethodName := ⟨RX12, "tray", "(III)Z"⟩
abbrev cX12_wrongPlace : ByteArray := prog_14_method_14_code
def yX12_wrongPlace : MethodName := ⟨RX12, "wrongPlace", "(II)I"⟩
abbrev cX12_write : ByteArray := prog_14_method_15_code
def yX12_write : MethodName := ⟨RX12, "write", "(IIJ)Z"⟩
abbrev cX12_read : ByteArray := prog_14_method_16_code
def yX12_read : MethodName := ⟨RX12, "read", "(II)J"⟩
abbrev cX12_pour : ByteArray := prog_14_method_17_code
def yX12_pour : MethodName := ⟨RX12, "pour", "(IIIII)Z"⟩
abbrev cX12_isFrom : ByteArray := prog_14_method_18_code
def yX12_isFrom : MethodName := ⟨RX12, "isFrom", "(JJJ)Z"⟩
abbrev cX12_feed : ByteArray := prog_14_method_19_code
def yX12_feed : MethodName := ⟨RX12, "feed", "(IIIII)I"⟩
abbrev cX12_four : ByteArray := prog_14_method_20_code
def yX12_four : MethodName := ⟨RX12, "four", "(I)V"⟩
abbrev cX12_byteAt : ByteArray := prog_14_method_21_code
def yX12_byteAt : MethodName := ⟨RX12, "byteAt", "(I)I"⟩
abbrev cX12_isSmall : ByteArray := prog_14_method_22_code
def yX12_isSmall : MethodName := ⟨RX12, "isSmall", "(I)Z"⟩
abbrev cX12_isDigit : ByteArray := prog_14_method_23_code
def yX12_isDigit : MethodName := ⟨RX12, "isDigit", "(I)Z"⟩
abbrev cX12_ahead : ByteArray := prog_14_method_24_code
def yX12_ahead : MethodName := ⟨RX12, "ahead", "()V"⟩
abbrev cX12_isSign : ByteArray := prog_14_method_25_code
def yX12_isSign : MethodName := ⟨RX12, "isSign", "(I)Z"⟩
abbrev cX12_inWords : ByteArray := prog_14_method_26_code
def yX12_inWords : MethodName := ⟨RX12, "inWords", "(Ljava/lang/String;)I"⟩
abbrev cX12_fails : ByteArray := prog_14_method_27_code
def yX12_fails : MethodName := ⟨RX12, "fails", "(I)Z"⟩
abbrev cX12_begins : ByteArray := prog_14_method_28_code
def yX12_begins : MethodName := ⟨RX12, "begins", "(II)Z"⟩
abbrev cX12_wantSign : ByteArray := prog_14_method_29_code
def yX12_wantSign : MethodName := ⟨RX12, "wantSign", "(I)Z"⟩
abbrev cX12_number : ByteArray := prog_14_method_30_code
def yX12_number : MethodName := ⟨RX12, "number", "(III)Z"⟩
abbrev cX12_fault : ByteArray := prog_14_method_31_code
def yX12_fault : MethodName := ⟨RX12, "fault", "(I)I"⟩
abbrev cX12_taken : ByteArray := prog_14_method_32_code
def yX12_taken : MethodName := ⟨RX12, "taken", "(I)I"⟩
abbrev cX12_wantWord : ByteArray := prog_14_method_33_code
def yX12_wantWord : MethodName := ⟨RX12, "wantWord", "(I)Z"⟩
abbrev cX12_isName : ByteArray := prog_14_method_34_code
def yX12_isName : MethodName := ⟨RX12, "isName", "()Z"⟩
abbrev cX12_nameHere : ByteArray := prog_14_method_35_code
def yX12_nameHere : MethodName := ⟨RX12, "nameHere", "()J"⟩
abbrev cX12_findHere : ByteArray := prog_14_method_36_code
def yX12_findHere : MethodName := ⟨RX12, "findHere", "(II)I"⟩
abbrev cX12_rowOf : ByteArray := prog_14_method_37_code
def yX12_rowOf : MethodName := ⟨RX12, "rowOf", "(I)I"⟩
abbrev cX12_isIn : ByteArray := prog_14_method_38_code
def yX12_isIn : MethodName := ⟨RX12, "isIn", "(II)Z"⟩
abbrev cX12_aClass : ByteArray := prog_14_method_39_code
def yX12_aClass : MethodName := ⟨RX12, "aClass", "()Z"⟩
abbrev cX12_systemPart : ByteArray := prog_14_method_40_code
def yX12_systemPart : MethodName := ⟨RX12, "systemPart", "()Z"⟩
abbrev cX12_system : ByteArray := prog_14_method_41_code
def yX12_system : MethodName := ⟨RX12, "system", "(I)I"⟩
abbrev cX12_classTo : ByteArray := prog_14_method_42_code
def yX12_classTo : MethodName := ⟨RX12, "classTo", "(I)Z"⟩
abbrev cX12_test : ByteArray := prog_14_method_43_code
def yX12_test : MethodName := ⟨RX12, "test", "(I)Z"⟩
abbrev cX12_dayOrder : ByteArray := prog_14_method_44_code
def yX12_dayOrder : MethodName := ⟨RX12, "dayOrder", "(II)Z"⟩
abbrev cX12_isOrder : ByteArray := prog_14_method_45_code
def yX12_isOrder : MethodName := ⟨RX12, "isOrder", "(I)Z"⟩
abbrev cX12_dayStep : ByteArray := prog_14_method_46_code
def yX12_dayStep : MethodName := ⟨RX12, "dayStep", "()Z"⟩
abbrev cX12_days : ByteArray := prog_14_method_47_code
def yX12_days : MethodName := ⟨RX12, "days", "(I)I"⟩
abbrev cX12_isClass : ByteArray := prog_14_method_48_code
def yX12_isClass : MethodName := ⟨RX12, "isClass", "(I)Z"⟩
abbrev cX12_restOf : ByteArray := prog_14_method_49_code
def yX12_restOf : MethodName := ⟨RX12, "restOf", "(I)I"⟩
abbrev cX12_modulusOf : ByteArray := prog_14_method_50_code
def yX12_modulusOf : MethodName := ⟨RX12, "modulusOf", "(I)I"⟩
abbrev cX12_isOn : ByteArray := prog_14_method_51_code
def yX12_isOn : MethodName := ⟨RX12, "isOn", "(I)Z"⟩
abbrev cX12_onSet : ByteArray := prog_14_method_52_code
def yX12_onSet : MethodName := ⟨RX12, "onSet", "()I"⟩
abbrev cX12_bits : ByteArray := prog_14_method_53_code
def yX12_bits : MethodName := ⟨RX12, "bits", "(I)I"⟩
abbrev cX12_common : ByteArray := prog_14_method_54_code
def yX12_common : MethodName := ⟨RX12, "common", "(II)I"⟩
abbrev cX12_spanOf : ByteArray := prog_14_method_55_code
def yX12_spanOf : MethodName := ⟨RX12, "spanOf", "(I)I"⟩
abbrev cX12_lays : ByteArray := prog_14_method_56_code
def yX12_lays : MethodName := ⟨RX12, "lays", "(I)Z"⟩
abbrev cX12_laysNow : ByteArray := prog_14_method_57_code
def yX12_laysNow : MethodName := ⟨RX12, "laysNow", "()Z"⟩
abbrev cX12_justBy : ByteArray := prog_14_method_58_code
def yX12_justBy : MethodName := ⟨RX12, "justBy", "(I)I"⟩
abbrev cX12_doMeet : ByteArray := prog_14_method_59_code
def yX12_doMeet : MethodName := ⟨RX12, "doMeet", "(II)Z"⟩
abbrev cX12_couples : ByteArray := prog_14_method_60_code
def yX12_couples : MethodName := ⟨RX12, "couples", "()I"⟩
abbrev cX12_areUnlike : ByteArray := prog_14_method_61_code
def yX12_areUnlike : MethodName := ⟨RX12, "areUnlike", "()Z"⟩
abbrev cX12_told : ByteArray := prog_14_method_62_code
def yX12_told : MethodName := ⟨RX12, "told", "(I)I"⟩
abbrev cX12_classOf : ByteArray := prog_14_method_63_code
def yX12_classOf : MethodName := ⟨RX12, "classOf", "(II)I"⟩
abbrev cX12_catchers : ByteArray := prog_14_method_64_code
def yX12_catchers : MethodName := ⟨RX12, "catchers", "(I)I"⟩
abbrev cX12_caught : ByteArray := prog_14_method_65_code
def yX12_caught : MethodName := ⟨RX12, "caught", "(I)I"⟩
abbrev cX12_tightest : ByteArray := prog_14_method_66_code
def yX12_tightest : MethodName := ⟨RX12, "tightest", "(I)I"⟩
abbrev cX12_turn : ByteArray := prog_14_method_67_code
def yX12_turn : MethodName := ⟨RX12, "turn", "(I)I"⟩
abbrev cX12_puts : ByteArray := prog_14_method_68_code
def yX12_puts : MethodName := ⟨RX12, "puts", "(III)V"⟩
abbrev cX12_add : ByteArray := prog_14_method_69_code
def yX12_add : MethodName := ⟨RX12, "add", "(II)I"⟩
abbrev cX12_takesAway : ByteArray := prog_14_method_70_code
def yX12_takesAway : MethodName := ⟨RX12, "takesAway", "(I)V"⟩
abbrev cX12_drop : ByteArray := prog_14_method_71_code
def yX12_drop : MethodName := ⟨RX12, "drop", "(I)I"⟩
abbrev cX12_move : ByteArray := prog_14_method_72_code
def yX12_move : MethodName := ⟨RX12, "move", "(II)I"⟩
abbrev cX12_shifts : ByteArray := prog_14_method_73_code
def yX12_shifts : MethodName := ⟨RX12, "shifts", "(I)V"⟩
abbrev cX12_shift : ByteArray := prog_14_method_74_code
def yX12_shift : MethodName := ⟨RX12, "shift", "(I)Z"⟩
abbrev cX12_spread : ByteArray := prog_14_method_75_code
def yX12_spread : MethodName := ⟨RX12, "spread", "(I)I"⟩
abbrev cX12_whyNotSplit : ByteArray := prog_14_method_76_code
def yX12_whyNotSplit : MethodName := ⟨RX12, "whyNotSplit", "(II)I"⟩
abbrev cX12_splits : ByteArray := prog_14_method_77_code
def yX12_splits : MethodName := ⟨RX12, "splits", "(II)V"⟩
abbrev cX12_split : ByteArray := prog_14_method_78_code
def yX12_split : MethodName := ⟨RX12, "split", "(II)I"⟩
abbrev cX12_findClass : ByteArray := prog_14_method_79_code
def yX12_findClass : MethodName := ⟨RX12, "findClass", "(IIZ)I"⟩
abbrev cX12_join : ByteArray := prog_14_method_80_code
def yX12_join : MethodName := ⟨RX12, "join", "(II)I"⟩
abbrev cX12_rule : ByteArray := prog_14_method_81_code
def yX12_rule : MethodName := ⟨RX12, "rule", "(I)Z"⟩
abbrev cX12_gapAt : ByteArray := prog_14_method_82_code
def yX12_gapAt : MethodName := ⟨RX12, "gapAt", "(I)I"⟩
abbrev cX12_gaps : ByteArray := prog_14_method_83_code
def yX12_gaps : MethodName := ⟨RX12, "gaps", "()Z"⟩
abbrev cX12_weight : ByteArray := prog_14_method_84_code
def yX12_weight : MethodName := ⟨RX12, "weight", "()Z"⟩
abbrev cX12_alone : ByteArray := prog_14_method_85_code
def yX12_alone : MethodName := ⟨RX12, "alone", "(I)Z"⟩
abbrev cX12_needless : ByteArray := prog_14_method_86_code
def yX12_needless : MethodName := ⟨RX12, "needless", "()I"⟩
abbrev cX12_fewestNow : ByteArray := prog_14_method_87_code
def yX12_fewestNow : MethodName := ⟨RX12, "fewestNow", "()I"⟩
abbrev cX12_fewest : ByteArray := prog_14_method_88_code
def yX12_fewest : MethodName := ⟨RX12, "fewest", "()I"⟩
abbrev cX12_fewestSet : ByteArray := prog_14_method_89_code
def yX12_fewestSet : MethodName := ⟨RX12, "fewestSet", "()I"⟩
abbrev cX12_meet : ByteArray := prog_14_method_90_code
def yX12_meet : MethodName := ⟨RX12, "meet", "(II)I"⟩
abbrev cX12_thickNow : ByteArray := prog_14_method_91_code
def yX12_thickNow : MethodName := ⟨RX12, "thickNow", "()I"⟩
abbrev cX12_thick : ByteArray := prog_14_method_92_code
def yX12_thick : MethodName := ⟨RX12, "thick", "()I"⟩
abbrev cX12_ask : ByteArray := prog_14_method_93_code
def yX12_ask : MethodName := ⟨RX12, "ask", "()I"⟩
abbrev cX12_isLikeBy : ByteArray := prog_14_method_94_code
def yX12_isLikeBy : MethodName := ⟨RX12, "isLikeBy", "(I)Z"⟩
abbrev cX12_turnsBy : ByteArray := prog_14_method_95_code
def yX12_turnsBy : MethodName := ⟨RX12, "turnsBy", "()I"⟩
abbrev cX12_kindOf : ByteArray := prog_14_method_96_code
def yX12_kindOf : MethodName := ⟨RX12, "kindOf", "(II)I"⟩
abbrev cX12_leastPrime : ByteArray := prog_14_method_97_code
def yX12_leastPrime : MethodName := ⟨RX12, "leastPrime", "(I)I"⟩
abbrev cX12_laysTree : ByteArray := prog_14_method_98_code
def yX12_laysTree : MethodName := ⟨RX12, "laysTree", "()V"⟩
abbrev cX12_tree : ByteArray := prog_14_method_99_code
def yX12_tree : MethodName := ⟨RX12, "tree", "(I)I"⟩
abbrev cX12_leafOf : ByteArray := prog_14_method_100_code
def yX12_leafOf : MethodName := ⟨RX12, "leafOf", "(I)I"⟩
abbrev cX12_wrongChoices : ByteArray := prog_14_method_101_code
def yX12_wrongChoices : MethodName := ⟨RX12, "wrongChoices", "(III)I"⟩
abbrev cX12_allWays : ByteArray := prog_14_method_102_code
def yX12_allWays : MethodName := ⟨RX12, "allWays", "(I)I"⟩
abbrev cX12_laysWay : ByteArray := prog_14_method_103_code
def yX12_laysWay : MethodName := ⟨RX12, "laysWay", "(II)V"⟩
abbrev cX12_isNoneTwice : ByteArray := prog_14_method_104_code
def yX12_isNoneTwice : MethodName := ⟨RX12, "isNoneTwice", "(I)Z"⟩
abbrev cX12_spanBy : ByteArray := prog_14_method_105_code
def yX12_spanBy : MethodName := ⟨RX12, "spanBy", "(I)I"⟩
abbrev cX12_isAllBy : ByteArray := prog_14_method_106_code
def yX12_isAllBy : MethodName := ⟨RX12, "isAllBy", "(I)Z"⟩
abbrev cX12_isGood : ByteArray := prog_14_method_107_code
def yX12_isGood : MethodName := ⟨RX12, "isGood", "(II)Z"⟩
abbrev cX12_choices : ByteArray := prog_14_method_108_code
def yX12_choices : MethodName := ⟨RX12, "choices", "(III)I"⟩
abbrev cX12_choiceAt : ByteArray := prog_14_method_109_code
def yX12_choiceAt : MethodName := ⟨RX12, "choiceAt", "(IIII)I"⟩
abbrev cX12_worthOf : ByteArray := prog_14_method_110_code
def yX12_worthOf : MethodName := ⟨RX12, "worthOf", "(I)I"⟩
abbrev cX12_afterBy : ByteArray := prog_14_method_111_code
def yX12_afterBy : MethodName := ⟨RX12, "afterBy", "(II)I"⟩
abbrev cX12_leastBy : ByteArray := prog_14_method_112_code
def yX12_leastBy : MethodName := ⟨RX12, "leastBy", "(I)I"⟩
abbrev cX12_mostBy : ByteArray := prog_14_method_113_code
def yX12_mostBy : MethodName := ⟨RX12, "mostBy", "(II)I"⟩
abbrev cX12_wrongGame : ByteArray := prog_14_method_114_code
def yX12_wrongGame : MethodName := ⟨RX12, "wrongGame", "(II)I"⟩
abbrev cX12_game : ByteArray := prog_14_method_115_code
def yX12_game : MethodName := ⟨RX12, "game", "(I)I"⟩
abbrev cX12_moveOf : ByteArray := prog_14_method_116_code
def yX12_moveOf : MethodName := ⟨RX12, "moveOf", "(I)I"⟩
abbrev cX12_uncaught : ByteArray := prog_14_method_117_code
def yX12_uncaught : MethodName := ⟨RX12, "uncaught", "(II)Z"⟩
abbrev cX12_copySystem : ByteArray := prog_14_method_118_code
def yX12_copySystem : MethodName := ⟨RX12, "copySystem", "(I)I"⟩
abbrev cX12_draw : ByteArray := prog_14_method_119_code
def yX12_draw : MethodName := ⟨RX12, "draw", "(I)I"⟩
abbrev cX12_switches : ByteArray := prog_14_method_120_code
def yX12_switches : MethodName := ⟨RX12, "switches", "(II)Z"⟩
abbrev cX12_shiftsOn : ByteArray := prog_14_method_121_code
def yX12_shiftsOn : MethodName := ⟨RX12, "shiftsOn", "(I)Z"⟩
abbrev cX12_splitsOn : ByteArray := prog_14_method_122_code
def yX12_splitsOn : MethodName := ⟨RX12, "splitsOn", "(II)Z"⟩
abbrev cX12_doesAny : ByteArray := prog_14_method_123_code
def yX12_doesAny : MethodName := ⟨RX12, "doesAny", "()Z"⟩
abbrev cX12_does : ByteArray := prog_14_method_124_code
def yX12_does : MethodName := ⟨RX12, "does", "(I)Z"⟩
abbrev cX12_holds : ByteArray := prog_14_method_125_code
def yX12_holds : MethodName := ⟨RX12, "holds", "(I)Z"⟩
abbrev cX12_behindEnds : ByteArray := prog_14_method_126_code
def yX12_behindEnds : MethodName := ⟨RX12, "behindEnds", "(I)I"⟩
abbrev cX12_lives : ByteArray := prog_14_method_127_code
def yX12_lives : MethodName := ⟨RX12, "lives", "(I)V"⟩
abbrev cX12_live : ByteArray := prog_14_method_128_code
def yX12_live : MethodName := ⟨RX12, "live", "(I)I"⟩
abbrev cX12_lived : ByteArray := prog_14_method_129_code
def yX12_lived : MethodName := ⟨RX12, "lived", "(I)I"⟩
abbrev cX12_keeps : ByteArray := prog_14_method_130_code
def yX12_keeps : MethodName := ⟨RX12, "keeps", "(I)V"⟩
abbrev cX12_brings : ByteArray := prog_14_method_131_code
def yX12_brings : MethodName := ⟨RX12, "brings", "(I)V"⟩
abbrev cX12_mean : ByteArray := prog_14_method_132_code
def yX12_mean : MethodName := ⟨RX12, "mean", "(II)Z"⟩
abbrev cX12_copies : ByteArray := prog_14_method_133_code
def yX12_copies : MethodName := ⟨RX12, "copies", "(II)V"⟩
abbrev cX12_mark : ByteArray := prog_14_method_134_code
def yX12_mark : MethodName := ⟨RX12, "mark", "()I"⟩
abbrev cX12_undo : ByteArray := prog_14_method_135_code
def yX12_undo : MethodName := ⟨RX12, "undo", "()I"⟩
def RJ6 : String := "java/lang/Integer"
def TJ6 : u_T := fun k => match k with
  | _ => ("", "", "", false)
def tyJ6 : Nat → FieldType := fun k => match k with
  | _ => .int
abbrev cJ6_bitCount_0f7a4 : ByteArray := prog_15_method_49_code
def yJ6_bitCount_0f7a4 : MethodName := ⟨RJ6, "bitCount", "(I)I"⟩
def RJ13 : String := "java/lang/Long"
def TJ13 : u_T := fun k => match k with
  | _ => ("", "", "", false)
def tyJ13 : Nat → FieldType := fun k => match k with
  | _ => .int
abbrev cJ13_bitCount_95d88 : ByteArray := prog_16_method_50_code
def yJ13_bitCount_95d88 : MethodName := ⟨RJ13, "bitCount", "(J)I"⟩
def RJ9 : String := "java/lang/Math"
def TJ9 : u_T := fun k => match k with
  | _ => ("", "", "", false)
def tyJ9 : Nat → FieldType := fun k => match k with
  | _ => .int
abbrev cJ9_max_7cf53 : ByteArray := prog_17_method_65_code
def yJ9_max_7cf53 : MethodName := ⟨RJ9, "max", "(II)I"⟩
abbrev cJ9_min_7cf53 : ByteArray := prog_17_method_69_code
def yJ9_min_7cf53 : MethodName := ⟨RJ9, "min", "(II)I"⟩
def RJ0 : String := "java/lang/String"
def TJ0 : u_T := fun k => match k with
  | _ => ("", "", "", false)
def tyJ0 : Nat → FieldType := fun k => match k with
  | _ => .int
abbrev cJ0_length_8abf5 : ByteArray := prog_18_method_54_code
def yJ0_length_8abf5 : MethodName := ⟨RJ0, "length", "()I"⟩
abbrev cJ0_charAt_5068e : ByteArray := prog_18_method_56_code
def yJ0_charAt_5068e : MethodName := ⟨RJ0, "charAt", "(I)C"⟩
abbrev cJ0_coder_7d493 : ByteArray := prog_18_method_152_code
def yJ0_coder_7d493 : MethodName := ⟨RJ0, "coder", "()B"⟩
abbrev cJ0_isLatin1_aae02 : ByteArray := prog_18_method_154_code
def yJ0_isLatin1_aae02 : MethodName := ⟨RJ0, "isLatin1", "()Z"⟩
abbrev cJ0_checkIndex_df160 : ByteArray := prog_18_method_155_code
def yJ0_checkIndex_df160 : MethodName := ⟨RJ0, "checkIndex", "(II)V"⟩
def RJ1 : String := "java/lang/StringLatin1"
def TJ1 : u_T := fun k => match k with
  | _ => ("", "", "", false)
def tyJ1 : Nat → FieldType := fun k => match k with
  | _ => .int
abbrev cJ1_charAt_3b067 : ByteArray := prog_19_method_2_code
def yJ1_charAt_3b067 : MethodName := ⟨RJ1, "charAt", "([BI)C"⟩
def RJ2 : String := "java/lang/StringUTF16"
def TJ2 : u_T := fun k => match k with
  | _ => ("", "", "", false)
def tyJ2 : Nat → FieldType := fun k => match k with
  | _ => .int
abbrev cJ2_getChar_3b067 : ByteArray := prog_20_method_5_code
def yJ2_getChar_3b067 : MethodName := ⟨RJ2, "getChar", "([BI)C"⟩
abbrev cJ2_length_9d52b : ByteArray := prog_20_method_6_code
def yJ2_length_9d52b : MethodName := ⟨RJ2, "length", "([B)I"⟩
abbrev cJ2_charAt_3b067 : ByteArray := prog_20_method_83_code
def yJ2_charAt_3b067 : MethodName := ⟨RJ2, "charAt", "([BI)C"⟩
abbrev cJ2_checkIndex_2214a : ByteArray := prog_20_method_91_code
def yJ2_checkIndex_2214a : MethodName := ⟨RJ2, "checkIndex", "(I[B)V"⟩
def RJ10 : String := "java/lang/System"
def TJ10 : u_T := fun k => match k with
  | _ => ("", "", "", false)
def tyJ10 : Nat → FieldType := fun k => match k with
  | _ => .int
def RJ7 : String := "java/util/Arrays"
def TJ7 : u_T := fun k => match k with
  | _ => ("", "", "", false)
def tyJ7 : Nat → FieldType := fun k => match k with
  | _ => .int
abbrev cJ7_fill_d0a16 : ByteArray := prog_22_method_101_code
def yJ7_fill_d0a16 : MethodName := ⟨RJ7, "fill", "([JJ)V"⟩
def RJ3 : String := "jdk/internal/util/Preconditions"
def TJ3 : u_T := fun k => match k with
  | _ => ("", "", "", false)
def tyJ3 : Nat → FieldType := fun k => match k with
  | _ => .int
abbrev cJ3_checkIndex_8e157 : ByteArray := prog_23_method_11_code
def yJ3_checkIndex_8e157 : MethodName := ⟨RJ3, "checkIndex", "(IILjava/util/function/BiFunction;)I"⟩
def RL : String := "ResidueCoverLaw"
abbrev cL_law : ByteArray := code
def yL_law : MethodName := ⟨RL, "law", "([I)Z"⟩
abbrev vwCl : List vw_C := [(RX0, TX0, 6), (RX1, TX1, 6), (RX2, TX2, 9), (RX5, TX5, 9), (RX6, TX6, 11), (RX7, TX7, 5), (RX9, TX9, 3), (RX10, TX10, 4), (RX11, TX11, 17), (RX12, TX12, 39)]
