section
-- ===== PART A: goes FIRST, ahead of the names: the tables' words, and 'selects' of the private methods out of them =====
/-- a private method of a class that the tables say can be made, by its rows of tables_1 -/
def lw_okq (q : MethodName × Nat) : Prop := (q.1.cls ≠ "java/lang/invoke/MethodHandle" ∧ q.1.cls ≠ "java/lang/invoke/VarHandle") ∧ Cond.instantiable q.1.cls q.2 ∈ tables_1 ∧ Cond.privateMethod q.1 ∈ tables_1 ∧ Cond.instanceMethod q.1 ∈ tables_1
theorem lw_p0 : lw_okq (⟨"RanOut$Places", "isHoliday", "(I)Z"⟩, 8) := ⟨⟨by decide +kernel, by decide +kernel⟩, List.mem_of_getElem? (i := 37) (by decide +kernel), List.mem_of_getElem? (i := 526) (by decide +kernel), List.mem_of_getElem? (i := 527) (by decide +kernel)⟩
theorem lw_p1 : lw_okq (⟨"RanOut$Reader", "clearFault", "()V"⟩, 18) := ⟨⟨by decide +kernel, by decide +kernel⟩, List.mem_of_getElem? (i := 233) (by decide +kernel), List.mem_of_getElem? (i := 563) (by decide +kernel), List.mem_of_getElem? (i := 564) (by decide +kernel)⟩
theorem lw_p2 : lw_okq (⟨"RanOut$Reader", "advance", "()V"⟩, 18) := ⟨⟨by decide +kernel, by decide +kernel⟩, List.mem_of_getElem? (i := 233) (by decide +kernel), List.mem_of_getElem? (i := 571) (by decide +kernel), List.mem_of_getElem? (i := 572) (by decide +kernel)⟩
theorem lw_p3 : lw_okq (⟨"RanOut$Reader", "wordOf", "(II)I"⟩, 18) := ⟨⟨by decide +kernel, by decide +kernel⟩, List.mem_of_getElem? (i := 233) (by decide +kernel), List.mem_of_getElem? (i := 581) (by decide +kernel), List.mem_of_getElem? (i := 582) (by decide +kernel)⟩
theorem lw_p4 : lw_okq (⟨"RanOut$Reader", "numberOf", "(II)I"⟩, 18) := ⟨⟨by decide +kernel, by decide +kernel⟩, List.mem_of_getElem? (i := 233) (by decide +kernel), List.mem_of_getElem? (i := 632) (by decide +kernel), List.mem_of_getElem? (i := 633) (by decide +kernel)⟩
theorem lw_p5 : lw_okq (⟨"RanOut$Reader", "readLine", "()V"⟩, 18) := ⟨⟨by decide +kernel, by decide +kernel⟩, List.mem_of_getElem? (i := 233) (by decide +kernel), List.mem_of_getElem? (i := 642) (by decide +kernel), List.mem_of_getElem? (i := 643) (by decide +kernel)⟩
theorem lw_p6 : lw_okq (⟨"RanOut$Reader", "blame", "(I)V"⟩, 18) := ⟨⟨by decide +kernel, by decide +kernel⟩, List.mem_of_getElem? (i := 233) (by decide +kernel), List.mem_of_getElem? (i := 646) (by decide +kernel), List.mem_of_getElem? (i := 647) (by decide +kernel)⟩
theorem lw_p7 : lw_okq (⟨"RanOut$Reader", "readDays", "()I"⟩, 18) := ⟨⟨by decide +kernel, by decide +kernel⟩, List.mem_of_getElem? (i := 233) (by decide +kernel), List.mem_of_getElem? (i := 650) (by decide +kernel), List.mem_of_getElem? (i := 651) (by decide +kernel)⟩
theorem lw_p8 : lw_okq (⟨"RanOut$Reader", "expect", "(II)I"⟩, 18) := ⟨⟨by decide +kernel, by decide +kernel⟩, List.mem_of_getElem? (i := 233) (by decide +kernel), List.mem_of_getElem? (i := 654) (by decide +kernel), List.mem_of_getElem? (i := 655) (by decide +kernel)⟩
theorem lw_p9 : lw_okq (⟨"RanOut$Reader", "readCondition", "()V"⟩, 18) := ⟨⟨by decide +kernel, by decide +kernel⟩, List.mem_of_getElem? (i := 233) (by decide +kernel), List.mem_of_getElem? (i := 660) (by decide +kernel), List.mem_of_getElem? (i := 661) (by decide +kernel)⟩
theorem lw_p10 : lw_okq (⟨"RanOut$Reader", "readOpening", "()V"⟩, 18) := ⟨⟨by decide +kernel, by decide +kernel⟩, List.mem_of_getElem? (i := 233) (by decide +kernel), List.mem_of_getElem? (i := 664) (by decide +kernel), List.mem_of_getElem? (i := 665) (by decide +kernel)⟩
theorem lw_p11 : lw_okq (⟨"RanOut$Reader", "holdBack", "(I)V"⟩, 18) := ⟨⟨by decide +kernel, by decide +kernel⟩, List.mem_of_getElem? (i := 233) (by decide +kernel), List.mem_of_getElem? (i := 668) (by decide +kernel), List.mem_of_getElem? (i := 669) (by decide +kernel)⟩
theorem lw_p12 : lw_okq (⟨"RanOut$Reader", "readQuantity", "(Z)V"⟩, 18) := ⟨⟨by decide +kernel, by decide +kernel⟩, List.mem_of_getElem? (i := 233) (by decide +kernel), List.mem_of_getElem? (i := 672) (by decide +kernel), List.mem_of_getElem? (i := 673) (by decide +kernel)⟩
theorem lw_p13 : lw_okq (⟨"RanOut$Reader", "emit", "(I)V"⟩, 18) := ⟨⟨by decide +kernel, by decide +kernel⟩, List.mem_of_getElem? (i := 233) (by decide +kernel), List.mem_of_getElem? (i := 676) (by decide +kernel), List.mem_of_getElem? (i := 677) (by decide +kernel)⟩
theorem lw_p14 : lw_okq (⟨"RanOut$Reader", "readBehind", "(I)I"⟩, 18) := ⟨⟨by decide +kernel, by decide +kernel⟩, List.mem_of_getElem? (i := 233) (by decide +kernel), List.mem_of_getElem? (i := 680) (by decide +kernel), List.mem_of_getElem? (i := 681) (by decide +kernel)⟩
theorem lw_p15 : lw_okq (⟨"RanOut$Reader", "join", "(II)V"⟩, 18) := ⟨⟨by decide +kernel, by decide +kernel⟩, List.mem_of_getElem? (i := 233) (by decide +kernel), List.mem_of_getElem? (i := 684) (by decide +kernel), List.mem_of_getElem? (i := 685) (by decide +kernel)⟩
def lw_privs_1 : List (MethodName × Nat) := [(⟨"RanOut$Places", "isHoliday", "(I)Z"⟩, 8), (⟨"RanOut$Reader", "clearFault", "()V"⟩, 18), (⟨"RanOut$Reader", "advance", "()V"⟩, 18), (⟨"RanOut$Reader", "wordOf", "(II)I"⟩, 18), (⟨"RanOut$Reader", "numberOf", "(II)I"⟩, 18), (⟨"RanOut$Reader", "readLine", "()V"⟩, 18), (⟨"RanOut$Reader", "blame", "(I)V"⟩, 18), (⟨"RanOut$Reader", "readDays", "()I"⟩, 18), (⟨"RanOut$Reader", "expect", "(II)I"⟩, 18), (⟨"RanOut$Reader", "readCondition", "()V"⟩, 18), (⟨"RanOut$Reader", "readOpening", "()V"⟩, 18), (⟨"RanOut$Reader", "holdBack", "(I)V"⟩, 18), (⟨"RanOut$Reader", "readQuantity", "(Z)V"⟩, 18), (⟨"RanOut$Reader", "emit", "(I)V"⟩, 18), (⟨"RanOut$Reader", "readBehind", "(I)I"⟩, 18), (⟨"RanOut$Reader", "join", "(II)V"⟩, 18)]
theorem lw_r1 : ∀ q ∈ lw_privs_1, lw_okq q := List.forall_mem_cons.mpr ⟨lw_p0, List.forall_mem_cons.mpr ⟨lw_p1, List.forall_mem_cons.mpr ⟨lw_p2, List.forall_mem_cons.mpr ⟨lw_p3, List.forall_mem_cons.mpr ⟨lw_p4, List.forall_mem_cons.mpr ⟨lw_p5, List.forall_mem_cons.mpr ⟨lw_p6, List.forall_mem_cons.mpr ⟨lw_p7, List.forall_mem_cons.mpr ⟨lw_p8, List.forall_mem_cons.mpr ⟨lw_p9, List.forall_mem_cons.mpr ⟨lw_p10, List.forall_mem_cons.mpr ⟨lw_p11, List.forall_mem_cons.mpr ⟨lw_p12, List.forall_mem_cons.mpr ⟨lw_p13, List.forall_mem_cons.mpr ⟨lw_p14, List.forall_mem_cons.mpr ⟨lw_p15, fun _ h => absurd h List.not_mem_nil⟩⟩⟩⟩⟩⟩⟩⟩⟩⟩⟩⟩⟩⟩⟩⟩
theorem lw_p16 : lw_okq (⟨"RanOut$Reader", "settle", "(I)V"⟩, 18) := ⟨⟨by decide +kernel, by decide +kernel⟩, List.mem_of_getElem? (i := 233) (by decide +kernel), List.mem_of_getElem? (i := 688) (by decide +kernel), List.mem_of_getElem? (i := 689) (by decide +kernel)⟩
theorem lw_p17 : lw_okq (⟨"RanOut$Reader", "closeBracket", "()V"⟩, 18) := ⟨⟨by decide +kernel, by decide +kernel⟩, List.mem_of_getElem? (i := 233) (by decide +kernel), List.mem_of_getElem? (i := 692) (by decide +kernel), List.mem_of_getElem? (i := 693) (by decide +kernel)⟩
theorem lw_p18 : lw_okq (⟨"RanOut", "isClaim", "(I)Z"⟩, 6) := ⟨⟨by decide +kernel, by decide +kernel⟩, List.mem_of_getElem? (i := 23) (by decide +kernel), List.mem_of_getElem? (i := 760) (by decide +kernel), List.mem_of_getElem? (i := 761) (by decide +kernel)⟩
theorem lw_p19 : lw_okq (⟨"RanOut$Claims", "contestedInAll", "()I"⟩, 13) := ⟨⟨by decide +kernel, by decide +kernel⟩, List.mem_of_getElem? (i := 104) (by decide +kernel), List.mem_of_getElem? (i := 776) (by decide +kernel), List.mem_of_getElem? (i := 777) (by decide +kernel)⟩
theorem lw_p20 : lw_okq (⟨"RanOut$Case", "loadLaws", "(I)V"⟩, 13) := ⟨⟨by decide +kernel, by decide +kernel⟩, List.mem_of_getElem? (i := 305) (by decide +kernel), List.mem_of_getElem? (i := 801) (by decide +kernel), List.mem_of_getElem? (i := 802) (by decide +kernel)⟩
theorem lw_p21 : lw_okq (⟨"RanOut$Clock", "begin", "()V"⟩, 16) := ⟨⟨by decide +kernel, by decide +kernel⟩, List.mem_of_getElem? (i := 299) (by decide +kernel), List.mem_of_getElem? (i := 805) (by decide +kernel), List.mem_of_getElem? (i := 806) (by decide +kernel)⟩
theorem lw_p22 : lw_okq (⟨"RanOut$Clock", "goDay", "(I)V"⟩, 16) := ⟨⟨by decide +kernel, by decide +kernel⟩, List.mem_of_getElem? (i := 299) (by decide +kernel), List.mem_of_getElem? (i := 813) (by decide +kernel), List.mem_of_getElem? (i := 814) (by decide +kernel)⟩
theorem lw_p23 : lw_okq (⟨"RanOut$Clock", "findTerm", "(LRanOut$Law;I)V"⟩, 16) := ⟨⟨by decide +kernel, by decide +kernel⟩, List.mem_of_getElem? (i := 299) (by decide +kernel), List.mem_of_getElem? (i := 821) (by decide +kernel), List.mem_of_getElem? (i := 822) (by decide +kernel)⟩
theorem lw_p24 : lw_okq (⟨"RanOut$Clock", "holds", "(LRanOut$Line;I)Z"⟩, 16) := ⟨⟨by decide +kernel, by decide +kernel⟩, List.mem_of_getElem? (i := 299) (by decide +kernel), List.mem_of_getElem? (i := 825) (by decide +kernel), List.mem_of_getElem? (i := 826) (by decide +kernel)⟩
theorem lw_p25 : lw_okq (⟨"RanOut$Clock", "valueOf", "(II)I"⟩, 16) := ⟨⟨by decide +kernel, by decide +kernel⟩, List.mem_of_getElem? (i := 299) (by decide +kernel), List.mem_of_getElem? (i := 829) (by decide +kernel), List.mem_of_getElem? (i := 830) (by decide +kernel)⟩
theorem lw_p26 : lw_okq (⟨"RanOut$Clock", "hasLine", "(LRanOut$Law;III)Z"⟩, 16) := ⟨⟨by decide +kernel, by decide +kernel⟩, List.mem_of_getElem? (i := 299) (by decide +kernel), List.mem_of_getElem? (i := 840) (by decide +kernel), List.mem_of_getElem? (i := 841) (by decide +kernel)⟩
theorem lw_p27 : lw_okq (⟨"RanOut$Clock", "isLongOver", "(LRanOut$Law;I)Z"⟩, 16) := ⟨⟨by decide +kernel, by decide +kernel⟩, List.mem_of_getElem? (i := 299) (by decide +kernel), List.mem_of_getElem? (i := 844) (by decide +kernel), List.mem_of_getElem? (i := 845) (by decide +kernel)⟩
theorem lw_p28 : lw_okq (⟨"RanOut$Clock", "calmThrough", "(II)I"⟩, 16) := ⟨⟨by decide +kernel, by decide +kernel⟩, List.mem_of_getElem? (i := 299) (by decide +kernel), List.mem_of_getElem? (i := 852) (by decide +kernel), List.mem_of_getElem? (i := 853) (by decide +kernel)⟩
theorem lw_p29 : lw_okq (⟨"RanOut$LastDays", "lastWithout", "(II)I"⟩, 6) := ⟨⟨by decide +kernel, by decide +kernel⟩, List.mem_of_getElem? (i := 411) (by decide +kernel), List.mem_of_getElem? (i := 894) (by decide +kernel), List.mem_of_getElem? (i := 895) (by decide +kernel)⟩
theorem lw_p30 : lw_okq (⟨"RanOut$LastDays", "stretch", "(II)V"⟩, 6) := ⟨⟨by decide +kernel, by decide +kernel⟩, List.mem_of_getElem? (i := 411) (by decide +kernel), List.mem_of_getElem? (i := 906) (by decide +kernel), List.mem_of_getElem? (i := 907) (by decide +kernel)⟩
theorem lw_p31 : lw_okq (⟨"RanOut", "hasOtherLastDay", "(I)Z"⟩, 6) := ⟨⟨by decide +kernel, by decide +kernel⟩, List.mem_of_getElem? (i := 23) (by decide +kernel), List.mem_of_getElem? (i := 928) (by decide +kernel), List.mem_of_getElem? (i := 929) (by decide +kernel)⟩
def lw_privs_2 : List (MethodName × Nat) := [(⟨"RanOut$Reader", "settle", "(I)V"⟩, 18), (⟨"RanOut$Reader", "closeBracket", "()V"⟩, 18), (⟨"RanOut", "isClaim", "(I)Z"⟩, 6), (⟨"RanOut$Claims", "contestedInAll", "()I"⟩, 13), (⟨"RanOut$Case", "loadLaws", "(I)V"⟩, 13), (⟨"RanOut$Clock", "begin", "()V"⟩, 16), (⟨"RanOut$Clock", "goDay", "(I)V"⟩, 16), (⟨"RanOut$Clock", "findTerm", "(LRanOut$Law;I)V"⟩, 16), (⟨"RanOut$Clock", "holds", "(LRanOut$Line;I)Z"⟩, 16), (⟨"RanOut$Clock", "valueOf", "(II)I"⟩, 16), (⟨"RanOut$Clock", "hasLine", "(LRanOut$Law;III)Z"⟩, 16), (⟨"RanOut$Clock", "isLongOver", "(LRanOut$Law;I)Z"⟩, 16), (⟨"RanOut$Clock", "calmThrough", "(II)I"⟩, 16), (⟨"RanOut$LastDays", "lastWithout", "(II)I"⟩, 6), (⟨"RanOut$LastDays", "stretch", "(II)V"⟩, 6), (⟨"RanOut", "hasOtherLastDay", "(I)Z"⟩, 6)]
theorem lw_r2 : ∀ q ∈ lw_privs_2, lw_okq q := List.forall_mem_cons.mpr ⟨lw_p16, List.forall_mem_cons.mpr ⟨lw_p17, List.forall_mem_cons.mpr ⟨lw_p18, List.forall_mem_cons.mpr ⟨lw_p19, List.forall_mem_cons.mpr ⟨lw_p20, List.forall_mem_cons.mpr ⟨lw_p21, List.forall_mem_cons.mpr ⟨lw_p22, List.forall_mem_cons.mpr ⟨lw_p23, List.forall_mem_cons.mpr ⟨lw_p24, List.forall_mem_cons.mpr ⟨lw_p25, List.forall_mem_cons.mpr ⟨lw_p26, List.forall_mem_cons.mpr ⟨lw_p27, List.forall_mem_cons.mpr ⟨lw_p28, List.forall_mem_cons.mpr ⟨lw_p29, List.forall_mem_cons.mpr ⟨lw_p30, List.forall_mem_cons.mpr ⟨lw_p31, fun _ h => absurd h List.not_mem_nil⟩⟩⟩⟩⟩⟩⟩⟩⟩⟩⟩⟩⟩⟩⟩⟩
theorem lw_p32 : lw_okq (⟨"RanOut", "areActClaims", "(III)Z"⟩, 6) := ⟨⟨by decide +kernel, by decide +kernel⟩, List.mem_of_getElem? (i := 23) (by decide +kernel), List.mem_of_getElem? (i := 942) (by decide +kernel), List.mem_of_getElem? (i := 943) (by decide +kernel)⟩
theorem lw_p33 : lw_okq (⟨"RanOut", "isPlanned", "(I)Z"⟩, 6) := ⟨⟨by decide +kernel, by decide +kernel⟩, List.mem_of_getElem? (i := 23) (by decide +kernel), List.mem_of_getElem? (i := 954) (by decide +kernel), List.mem_of_getElem? (i := 955) (by decide +kernel)⟩
theorem lw_p34 : lw_okq (⟨"RanOut$Plan", "setsFor", "(III)J"⟩, 11) := ⟨⟨by decide +kernel, by decide +kernel⟩, List.mem_of_getElem? (i := 444) (by decide +kernel), List.mem_of_getElem? (i := 966) (by decide +kernel), List.mem_of_getElem? (i := 967) (by decide +kernel)⟩
theorem lw_p35 : lw_okq (⟨"RanOut$Plan", "claimOf", "(I)I"⟩, 11) := ⟨⟨by decide +kernel, by decide +kernel⟩, List.mem_of_getElem? (i := 444) (by decide +kernel), List.mem_of_getElem? (i := 997) (by decide +kernel), List.mem_of_getElem? (i := 998) (by decide +kernel)⟩
theorem lw_p36 : lw_okq (⟨"RanOut$Plan", "isCheaper", "(II)Z"⟩, 11) := ⟨⟨by decide +kernel, by decide +kernel⟩, List.mem_of_getElem? (i := 444) (by decide +kernel), List.mem_of_getElem? (i := 1010) (by decide +kernel), List.mem_of_getElem? (i := 1011) (by decide +kernel)⟩
theorem lw_p37 : lw_okq (⟨"RanOut$Plan", "tryWithout", "(II)V"⟩, 11) := ⟨⟨by decide +kernel, by decide +kernel⟩, List.mem_of_getElem? (i := 444) (by decide +kernel), List.mem_of_getElem? (i := 1070) (by decide +kernel), List.mem_of_getElem? (i := 1071) (by decide +kernel)⟩
theorem lw_p38 : lw_okq (⟨"RanOut", "countClaims", "(I)I"⟩, 6) := ⟨⟨by decide +kernel, by decide +kernel⟩, List.mem_of_getElem? (i := 23) (by decide +kernel), List.mem_of_getElem? (i := 1117) (by decide +kernel), List.mem_of_getElem? (i := 1118) (by decide +kernel)⟩
theorem lw_p39 : lw_okq (⟨"RanOut", "lookAt", "(I)I"⟩, 6) := ⟨⟨by decide +kernel, by decide +kernel⟩, List.mem_of_getElem? (i := 23) (by decide +kernel), List.mem_of_getElem? (i := 1123) (by decide +kernel), List.mem_of_getElem? (i := 1124) (by decide +kernel)⟩
theorem lw_p40 : lw_okq (⟨"RanOutModel", "isIn", "(III)Z"⟩, 72) := ⟨⟨by decide +kernel, by decide +kernel⟩, List.mem_of_getElem? (i := 1127) (by decide +kernel), List.mem_of_getElem? (i := 1354) (by decide +kernel), List.mem_of_getElem? (i := 1355) (by decide +kernel)⟩
theorem lw_p41 : lw_okq (⟨"RanOutModel", "isPlace", "(I)Z"⟩, 72) := ⟨⟨by decide +kernel, by decide +kernel⟩, List.mem_of_getElem? (i := 1127) (by decide +kernel), List.mem_of_getElem? (i := 1366) (by decide +kernel), List.mem_of_getElem? (i := 1367) (by decide +kernel)⟩
theorem lw_p42 : lw_okq (⟨"RanOutModel", "isLaw", "(I)Z"⟩, 72) := ⟨⟨by decide +kernel, by decide +kernel⟩, List.mem_of_getElem? (i := 1127) (by decide +kernel), List.mem_of_getElem? (i := 1370) (by decide +kernel), List.mem_of_getElem? (i := 1371) (by decide +kernel)⟩
theorem lw_p43 : lw_okq (⟨"RanOutModel", "isClaim", "(I)Z"⟩, 72) := ⟨⟨by decide +kernel, by decide +kernel⟩, List.mem_of_getElem? (i := 1127) (by decide +kernel), List.mem_of_getElem? (i := 1386) (by decide +kernel), List.mem_of_getElem? (i := 1387) (by decide +kernel)⟩
theorem lw_p44 : lw_okq (⟨"RanOutModel", "doubtful", "(IIZ)I"⟩, 72) := ⟨⟨by decide +kernel, by decide +kernel⟩, List.mem_of_getElem? (i := 1127) (by decide +kernel), List.mem_of_getElem? (i := 1394) (by decide +kernel), List.mem_of_getElem? (i := 1395) (by decide +kernel)⟩
theorem lw_p45 : lw_okq (⟨"RanOutModel", "isOther", "(I)Z"⟩, 72) := ⟨⟨by decide +kernel, by decide +kernel⟩, List.mem_of_getElem? (i := 1127) (by decide +kernel), List.mem_of_getElem? (i := 1406) (by decide +kernel), List.mem_of_getElem? (i := 1407) (by decide +kernel)⟩
theorem lw_p46 : lw_okq (⟨"RanOutModel", "types", "(I)V"⟩, 72) := ⟨⟨by decide +kernel, by decide +kernel⟩, List.mem_of_getElem? (i := 1127) (by decide +kernel), List.mem_of_getElem? (i := 1414) (by decide +kernel), List.mem_of_getElem? (i := 1415) (by decide +kernel)⟩
theorem lw_p47 : lw_okq (⟨"RanOutModel", "reads", "()V"⟩, 72) := ⟨⟨by decide +kernel, by decide +kernel⟩, List.mem_of_getElem? (i := 1127) (by decide +kernel), List.mem_of_getElem? (i := 1426) (by decide +kernel), List.mem_of_getElem? (i := 1427) (by decide +kernel)⟩
def lw_privs_3 : List (MethodName × Nat) := [(⟨"RanOut", "areActClaims", "(III)Z"⟩, 6), (⟨"RanOut", "isPlanned", "(I)Z"⟩, 6), (⟨"RanOut$Plan", "setsFor", "(III)J"⟩, 11), (⟨"RanOut$Plan", "claimOf", "(I)I"⟩, 11), (⟨"RanOut$Plan", "isCheaper", "(II)Z"⟩, 11), (⟨"RanOut$Plan", "tryWithout", "(II)V"⟩, 11), (⟨"RanOut", "countClaims", "(I)I"⟩, 6), (⟨"RanOut", "lookAt", "(I)I"⟩, 6), (⟨"RanOutModel", "isIn", "(III)Z"⟩, 72), (⟨"RanOutModel", "isPlace", "(I)Z"⟩, 72), (⟨"RanOutModel", "isLaw", "(I)Z"⟩, 72), (⟨"RanOutModel", "isClaim", "(I)Z"⟩, 72), (⟨"RanOutModel", "doubtful", "(IIZ)I"⟩, 72), (⟨"RanOutModel", "isOther", "(I)Z"⟩, 72), (⟨"RanOutModel", "types", "(I)V"⟩, 72), (⟨"RanOutModel", "reads", "()V"⟩, 72)]
theorem lw_r3 : ∀ q ∈ lw_privs_3, lw_okq q := List.forall_mem_cons.mpr ⟨lw_p32, List.forall_mem_cons.mpr ⟨lw_p33, List.forall_mem_cons.mpr ⟨lw_p34, List.forall_mem_cons.mpr ⟨lw_p35, List.forall_mem_cons.mpr ⟨lw_p36, List.forall_mem_cons.mpr ⟨lw_p37, List.forall_mem_cons.mpr ⟨lw_p38, List.forall_mem_cons.mpr ⟨lw_p39, List.forall_mem_cons.mpr ⟨lw_p40, List.forall_mem_cons.mpr ⟨lw_p41, List.forall_mem_cons.mpr ⟨lw_p42, List.forall_mem_cons.mpr ⟨lw_p43, List.forall_mem_cons.mpr ⟨lw_p44, List.forall_mem_cons.mpr ⟨lw_p45, List.forall_mem_cons.mpr ⟨lw_p46, List.forall_mem_cons.mpr ⟨lw_p47, fun _ h => absurd h List.not_mem_nil⟩⟩⟩⟩⟩⟩⟩⟩⟩⟩⟩⟩⟩⟩⟩⟩
theorem lw_p48 : lw_okq (⟨"RanOutModel", "raw", "(I)I"⟩, 72) := ⟨⟨by decide +kernel, by decide +kernel⟩, List.mem_of_getElem? (i := 1127) (by decide +kernel), List.mem_of_getElem? (i := 1430) (by decide +kernel), List.mem_of_getElem? (i := 1431) (by decide +kernel)⟩
theorem lw_p49 : lw_okq (⟨"RanOutModel", "isLetter", "(I)Z"⟩, 72) := ⟨⟨by decide +kernel, by decide +kernel⟩, List.mem_of_getElem? (i := 1127) (by decide +kernel), List.mem_of_getElem? (i := 1434) (by decide +kernel), List.mem_of_getElem? (i := 1435) (by decide +kernel)⟩
theorem lw_p50 : lw_okq (⟨"RanOutModel", "wordAt", "(II)I"⟩, 72) := ⟨⟨by decide +kernel, by decide +kernel⟩, List.mem_of_getElem? (i := 1127) (by decide +kernel), List.mem_of_getElem? (i := 1438) (by decide +kernel), List.mem_of_getElem? (i := 1439) (by decide +kernel)⟩
theorem lw_p51 : lw_okq (⟨"RanOutModel", "isDigit", "(I)Z"⟩, 72) := ⟨⟨by decide +kernel, by decide +kernel⟩, List.mem_of_getElem? (i := 1127) (by decide +kernel), List.mem_of_getElem? (i := 1442) (by decide +kernel), List.mem_of_getElem? (i := 1443) (by decide +kernel)⟩
theorem lw_p52 : lw_okq (⟨"RanOutModel", "isMarkSign", "(I)Z"⟩, 72) := ⟨⟨by decide +kernel, by decide +kernel⟩, List.mem_of_getElem? (i := 1127) (by decide +kernel), List.mem_of_getElem? (i := 1446) (by decide +kernel), List.mem_of_getElem? (i := 1447) (by decide +kernel)⟩
theorem lw_p53 : lw_okq (⟨"RanOutModel", "readText", "()I"⟩, 72) := ⟨⟨by decide +kernel, by decide +kernel⟩, List.mem_of_getElem? (i := 1127) (by decide +kernel), List.mem_of_getElem? (i := 1450) (by decide +kernel), List.mem_of_getElem? (i := 1451) (by decide +kernel)⟩
theorem lw_p54 : lw_okq (⟨"RanOutModel", "errs", "(I)I"⟩, 72) := ⟨⟨by decide +kernel, by decide +kernel⟩, List.mem_of_getElem? (i := 1127) (by decide +kernel), List.mem_of_getElem? (i := 1454) (by decide +kernel), List.mem_of_getElem? (i := 1455) (by decide +kernel)⟩
theorem lw_p55 : lw_okq (⟨"RanOutModel", "readDays", "(I)I"⟩, 72) := ⟨⟨by decide +kernel, by decide +kernel⟩, List.mem_of_getElem? (i := 1127) (by decide +kernel), List.mem_of_getElem? (i := 1458) (by decide +kernel), List.mem_of_getElem? (i := 1459) (by decide +kernel)⟩
theorem lw_p56 : lw_okq (⟨"RanOutModel", "isWord", "(I)Z"⟩, 72) := ⟨⟨by decide +kernel, by decide +kernel⟩, List.mem_of_getElem? (i := 1127) (by decide +kernel), List.mem_of_getElem? (i := 1462) (by decide +kernel), List.mem_of_getElem? (i := 1463) (by decide +kernel)⟩
theorem lw_p57 : lw_okq (⟨"RanOutModel", "readSort", "(I)I"⟩, 72) := ⟨⟨by decide +kernel, by decide +kernel⟩, List.mem_of_getElem? (i := 1127) (by decide +kernel), List.mem_of_getElem? (i := 1466) (by decide +kernel), List.mem_of_getElem? (i := 1467) (by decide +kernel)⟩
theorem lw_p58 : lw_okq (⟨"RanOutModel", "readAny", "()I"⟩, 72) := ⟨⟨by decide +kernel, by decide +kernel⟩, List.mem_of_getElem? (i := 1127) (by decide +kernel), List.mem_of_getElem? (i := 1470) (by decide +kernel), List.mem_of_getElem? (i := 1471) (by decide +kernel)⟩
theorem lw_p59 : lw_okq (⟨"RanOutModel", "isSign", "(I)Z"⟩, 72) := ⟨⟨by decide +kernel, by decide +kernel⟩, List.mem_of_getElem? (i := 1127) (by decide +kernel), List.mem_of_getElem? (i := 1474) (by decide +kernel), List.mem_of_getElem? (i := 1475) (by decide +kernel)⟩
theorem lw_p60 : lw_okq (⟨"RanOutModel", "waits", "(I)V"⟩, 72) := ⟨⟨by decide +kernel, by decide +kernel⟩, List.mem_of_getElem? (i := 1127) (by decide +kernel), List.mem_of_getElem? (i := 1478) (by decide +kernel), List.mem_of_getElem? (i := 1479) (by decide +kernel)⟩
theorem lw_p61 : lw_okq (⟨"RanOutModel", "readCompared", "()I"⟩, 72) := ⟨⟨by decide +kernel, by decide +kernel⟩, List.mem_of_getElem? (i := 1127) (by decide +kernel), List.mem_of_getElem? (i := 1482) (by decide +kernel), List.mem_of_getElem? (i := 1483) (by decide +kernel)⟩
theorem lw_p62 : lw_okq (⟨"RanOutModel", "readSum", "()I"⟩, 72) := ⟨⟨by decide +kernel, by decide +kernel⟩, List.mem_of_getElem? (i := 1127) (by decide +kernel), List.mem_of_getElem? (i := 1486) (by decide +kernel), List.mem_of_getElem? (i := 1487) (by decide +kernel)⟩
theorem lw_p63 : lw_okq (⟨"RanOutModel", "readProduct", "()I"⟩, 72) := ⟨⟨by decide +kernel, by decide +kernel⟩, List.mem_of_getElem? (i := 1127) (by decide +kernel), List.mem_of_getElem? (i := 1490) (by decide +kernel), List.mem_of_getElem? (i := 1491) (by decide +kernel)⟩
def lw_privs_4 : List (MethodName × Nat) := [(⟨"RanOutModel", "raw", "(I)I"⟩, 72), (⟨"RanOutModel", "isLetter", "(I)Z"⟩, 72), (⟨"RanOutModel", "wordAt", "(II)I"⟩, 72), (⟨"RanOutModel", "isDigit", "(I)Z"⟩, 72), (⟨"RanOutModel", "isMarkSign", "(I)Z"⟩, 72), (⟨"RanOutModel", "readText", "()I"⟩, 72), (⟨"RanOutModel", "errs", "(I)I"⟩, 72), (⟨"RanOutModel", "readDays", "(I)I"⟩, 72), (⟨"RanOutModel", "isWord", "(I)Z"⟩, 72), (⟨"RanOutModel", "readSort", "(I)I"⟩, 72), (⟨"RanOutModel", "readAny", "()I"⟩, 72), (⟨"RanOutModel", "isSign", "(I)Z"⟩, 72), (⟨"RanOutModel", "waits", "(I)V"⟩, 72), (⟨"RanOutModel", "readCompared", "()I"⟩, 72), (⟨"RanOutModel", "readSum", "()I"⟩, 72), (⟨"RanOutModel", "readProduct", "()I"⟩, 72)]
theorem lw_r4 : ∀ q ∈ lw_privs_4, lw_okq q := List.forall_mem_cons.mpr ⟨lw_p48, List.forall_mem_cons.mpr ⟨lw_p49, List.forall_mem_cons.mpr ⟨lw_p50, List.forall_mem_cons.mpr ⟨lw_p51, List.forall_mem_cons.mpr ⟨lw_p52, List.forall_mem_cons.mpr ⟨lw_p53, List.forall_mem_cons.mpr ⟨lw_p54, List.forall_mem_cons.mpr ⟨lw_p55, List.forall_mem_cons.mpr ⟨lw_p56, List.forall_mem_cons.mpr ⟨lw_p57, List.forall_mem_cons.mpr ⟨lw_p58, List.forall_mem_cons.mpr ⟨lw_p59, List.forall_mem_cons.mpr ⟨lw_p60, List.forall_mem_cons.mpr ⟨lw_p61, List.forall_mem_cons.mpr ⟨lw_p62, List.forall_mem_cons.mpr ⟨lw_p63, fun _ h => absurd h List.not_mem_nil⟩⟩⟩⟩⟩⟩⟩⟩⟩⟩⟩⟩⟩⟩⟩⟩
theorem lw_p64 : lw_okq (⟨"RanOutModel", "readUnit", "()I"⟩, 72) := ⟨⟨by decide +kernel, by decide +kernel⟩, List.mem_of_getElem? (i := 1127) (by decide +kernel), List.mem_of_getElem? (i := 1494) (by decide +kernel), List.mem_of_getElem? (i := 1495) (by decide +kernel)⟩
theorem lw_p65 : lw_okq (⟨"RanOutModel", "emits", "(II)V"⟩, 72) := ⟨⟨by decide +kernel, by decide +kernel⟩, List.mem_of_getElem? (i := 1127) (by decide +kernel), List.mem_of_getElem? (i := 1498) (by decide +kernel), List.mem_of_getElem? (i := 1499) (by decide +kernel)⟩
theorem lw_p66 : lw_okq (⟨"RanOutModel", "settles", "(I)V"⟩, 72) := ⟨⟨by decide +kernel, by decide +kernel⟩, List.mem_of_getElem? (i := 1127) (by decide +kernel), List.mem_of_getElem? (i := 1502) (by decide +kernel), List.mem_of_getElem? (i := 1503) (by decide +kernel)⟩
theorem lw_p67 : lw_okq (⟨"RanOutModel", "lastOf", "(I)I"⟩, 72) := ⟨⟨by decide +kernel, by decide +kernel⟩, List.mem_of_getElem? (i := 1127) (by decide +kernel), List.mem_of_getElem? (i := 1514) (by decide +kernel), List.mem_of_getElem? (i := 1515) (by decide +kernel)⟩
theorem lw_p68 : lw_okq (⟨"RanOutModel", "takesFacts", "(II)V"⟩, 72) := ⟨⟨by decide +kernel, by decide +kernel⟩, List.mem_of_getElem? (i := 1127) (by decide +kernel), List.mem_of_getElem? (i := 1518) (by decide +kernel), List.mem_of_getElem? (i := 1519) (by decide +kernel)⟩
theorem lw_p69 : lw_okq (⟨"RanOutModel", "isOf", "(II)Z"⟩, 72) := ⟨⟨by decide +kernel, by decide +kernel⟩, List.mem_of_getElem? (i := 1127) (by decide +kernel), List.mem_of_getElem? (i := 1522) (by decide +kernel), List.mem_of_getElem? (i := 1523) (by decide +kernel)⟩
theorem lw_p70 : lw_okq (⟨"RanOutModel", "takesFact", "(II)V"⟩, 72) := ⟨⟨by decide +kernel, by decide +kernel⟩, List.mem_of_getElem? (i := 1127) (by decide +kernel), List.mem_of_getElem? (i := 1526) (by decide +kernel), List.mem_of_getElem? (i := 1527) (by decide +kernel)⟩
theorem lw_p71 : lw_okq (⟨"RanOutModel", "runsTo", "(II)I"⟩, 72) := ⟨⟨by decide +kernel, by decide +kernel⟩, List.mem_of_getElem? (i := 1127) (by decide +kernel), List.mem_of_getElem? (i := 1530) (by decide +kernel), List.mem_of_getElem? (i := 1531) (by decide +kernel)⟩
theorem lw_p72 : lw_okq (⟨"RanOutModel", "lawOn", "(II)I"⟩, 72) := ⟨⟨by decide +kernel, by decide +kernel⟩, List.mem_of_getElem? (i := 1127) (by decide +kernel), List.mem_of_getElem? (i := 1534) (by decide +kernel), List.mem_of_getElem? (i := 1535) (by decide +kernel)⟩
theorem lw_p73 : lw_okq (⟨"RanOutModel", "asks", "(III)V"⟩, 72) := ⟨⟨by decide +kernel, by decide +kernel⟩, List.mem_of_getElem? (i := 1127) (by decide +kernel), List.mem_of_getElem? (i := 1538) (by decide +kernel), List.mem_of_getElem? (i := 1539) (by decide +kernel)⟩
theorem lw_p74 : lw_okq (⟨"RanOutModel", "termLine", "(I)I"⟩, 72) := ⟨⟨by decide +kernel, by decide +kernel⟩, List.mem_of_getElem? (i := 1127) (by decide +kernel), List.mem_of_getElem? (i := 1542) (by decide +kernel), List.mem_of_getElem? (i := 1543) (by decide +kernel)⟩
theorem lw_p75 : lw_okq (⟨"RanOutModel", "isSo", "(II)Z"⟩, 72) := ⟨⟨by decide +kernel, by decide +kernel⟩, List.mem_of_getElem? (i := 1127) (by decide +kernel), List.mem_of_getElem? (i := 1546) (by decide +kernel), List.mem_of_getElem? (i := 1547) (by decide +kernel)⟩
theorem lw_p76 : lw_okq (⟨"RanOutModel", "twoOf", "(III)I"⟩, 72) := ⟨⟨by decide +kernel, by decide +kernel⟩, List.mem_of_getElem? (i := 1127) (by decide +kernel), List.mem_of_getElem? (i := 1550) (by decide +kernel), List.mem_of_getElem? (i := 1551) (by decide +kernel)⟩
theorem lw_p77 : lw_okq (⟨"RanOutModel", "isOn", "(II)Z"⟩, 72) := ⟨⟨by decide +kernel, by decide +kernel⟩, List.mem_of_getElem? (i := 1127) (by decide +kernel), List.mem_of_getElem? (i := 1554) (by decide +kernel), List.mem_of_getElem? (i := 1555) (by decide +kernel)⟩
theorem lw_p78 : lw_okq (⟨"RanOutModel", "isTouched", "(III)Z"⟩, 72) := ⟨⟨by decide +kernel, by decide +kernel⟩, List.mem_of_getElem? (i := 1127) (by decide +kernel), List.mem_of_getElem? (i := 1559) (by decide +kernel), List.mem_of_getElem? (i := 1560) (by decide +kernel)⟩
theorem lw_p79 : lw_okq (⟨"RanOutModel", "isBeyond", "(III)Z"⟩, 72) := ⟨⟨by decide +kernel, by decide +kernel⟩, List.mem_of_getElem? (i := 1127) (by decide +kernel), List.mem_of_getElem? (i := 1563) (by decide +kernel), List.mem_of_getElem? (i := 1564) (by decide +kernel)⟩
def lw_privs_5 : List (MethodName × Nat) := [(⟨"RanOutModel", "readUnit", "()I"⟩, 72), (⟨"RanOutModel", "emits", "(II)V"⟩, 72), (⟨"RanOutModel", "settles", "(I)V"⟩, 72), (⟨"RanOutModel", "lastOf", "(I)I"⟩, 72), (⟨"RanOutModel", "takesFacts", "(II)V"⟩, 72), (⟨"RanOutModel", "isOf", "(II)Z"⟩, 72), (⟨"RanOutModel", "takesFact", "(II)V"⟩, 72), (⟨"RanOutModel", "runsTo", "(II)I"⟩, 72), (⟨"RanOutModel", "lawOn", "(II)I"⟩, 72), (⟨"RanOutModel", "asks", "(III)V"⟩, 72), (⟨"RanOutModel", "termLine", "(I)I"⟩, 72), (⟨"RanOutModel", "isSo", "(II)Z"⟩, 72), (⟨"RanOutModel", "twoOf", "(III)I"⟩, 72), (⟨"RanOutModel", "isOn", "(II)Z"⟩, 72), (⟨"RanOutModel", "isTouched", "(III)Z"⟩, 72), (⟨"RanOutModel", "isBeyond", "(III)Z"⟩, 72)]
theorem lw_r5 : ∀ q ∈ lw_privs_5, lw_okq q := List.forall_mem_cons.mpr ⟨lw_p64, List.forall_mem_cons.mpr ⟨lw_p65, List.forall_mem_cons.mpr ⟨lw_p66, List.forall_mem_cons.mpr ⟨lw_p67, List.forall_mem_cons.mpr ⟨lw_p68, List.forall_mem_cons.mpr ⟨lw_p69, List.forall_mem_cons.mpr ⟨lw_p70, List.forall_mem_cons.mpr ⟨lw_p71, List.forall_mem_cons.mpr ⟨lw_p72, List.forall_mem_cons.mpr ⟨lw_p73, List.forall_mem_cons.mpr ⟨lw_p74, List.forall_mem_cons.mpr ⟨lw_p75, List.forall_mem_cons.mpr ⟨lw_p76, List.forall_mem_cons.mpr ⟨lw_p77, List.forall_mem_cons.mpr ⟨lw_p78, List.forall_mem_cons.mpr ⟨lw_p79, fun _ h => absurd h List.not_mem_nil⟩⟩⟩⟩⟩⟩⟩⟩⟩⟩⟩⟩⟩⟩⟩⟩
theorem lw_p80 : lw_okq (⟨"RanOutModel", "rolls", "(I)Z"⟩, 72) := ⟨⟨by decide +kernel, by decide +kernel⟩, List.mem_of_getElem? (i := 1127) (by decide +kernel), List.mem_of_getElem? (i := 1567) (by decide +kernel), List.mem_of_getElem? (i := 1568) (by decide +kernel)⟩
theorem lw_p81 : lw_okq (⟨"RanOutModel", "isOff", "(I)Z"⟩, 72) := ⟨⟨by decide +kernel, by decide +kernel⟩, List.mem_of_getElem? (i := 1127) (by decide +kernel), List.mem_of_getElem? (i := 1571) (by decide +kernel), List.mem_of_getElem? (i := 1572) (by decide +kernel)⟩
theorem lw_p82 : lw_okq (⟨"RanOutModel", "tells", "(I)I"⟩, 72) := ⟨⟨by decide +kernel, by decide +kernel⟩, List.mem_of_getElem? (i := 1127) (by decide +kernel), List.mem_of_getElem? (i := 1576) (by decide +kernel), List.mem_of_getElem? (i := 1577) (by decide +kernel)⟩
theorem lw_p83 : lw_okq (⟨"RanOutModel", "aheadOf", "(II)V"⟩, 72) := ⟨⟨by decide +kernel, by decide +kernel⟩, List.mem_of_getElem? (i := 1127) (by decide +kernel), List.mem_of_getElem? (i := 1584) (by decide +kernel), List.mem_of_getElem? (i := 1585) (by decide +kernel)⟩
theorem lw_p84 : lw_okq (⟨"RanOutModel", "hangs", "(I)I"⟩, 72) := ⟨⟨by decide +kernel, by decide +kernel⟩, List.mem_of_getElem? (i := 1127) (by decide +kernel), List.mem_of_getElem? (i := 1592) (by decide +kernel), List.mem_of_getElem? (i := 1593) (by decide +kernel)⟩
theorem lw_p85 : lw_okq (⟨"RanOutModel", "spans", "(I)V"⟩, 72) := ⟨⟨by decide +kernel, by decide +kernel⟩, List.mem_of_getElem? (i := 1127) (by decide +kernel), List.mem_of_getElem? (i := 1596) (by decide +kernel), List.mem_of_getElem? (i := 1597) (by decide +kernel)⟩
theorem lw_p86 : lw_okq (⟨"RanOutModel", "canAsk", "(I)Z"⟩, 72) := ⟨⟨by decide +kernel, by decide +kernel⟩, List.mem_of_getElem? (i := 1127) (by decide +kernel), List.mem_of_getElem? (i := 1608) (by decide +kernel), List.mem_of_getElem? (i := 1609) (by decide +kernel)⟩
theorem lw_p87 : lw_okq (⟨"RanOutModel", "findsWanted", "(I)V"⟩, 72) := ⟨⟨by decide +kernel, by decide +kernel⟩, List.mem_of_getElem? (i := 1127) (by decide +kernel), List.mem_of_getElem? (i := 1612) (by decide +kernel), List.mem_of_getElem? (i := 1613) (by decide +kernel)⟩
theorem lw_p88 : lw_okq (⟨"RanOutModel", "findsAlive", "(II)V"⟩, 72) := ⟨⟨by decide +kernel, by decide +kernel⟩, List.mem_of_getElem? (i := 1127) (by decide +kernel), List.mem_of_getElem? (i := 1616) (by decide +kernel), List.mem_of_getElem? (i := 1617) (by decide +kernel)⟩
theorem lw_p89 : lw_okq (⟨"RanOutModel", "actsOf", "(I)I"⟩, 72) := ⟨⟨by decide +kernel, by decide +kernel⟩, List.mem_of_getElem? (i := 1127) (by decide +kernel), List.mem_of_getElem? (i := 1620) (by decide +kernel), List.mem_of_getElem? (i := 1621) (by decide +kernel)⟩
theorem lw_p90 : lw_okq (⟨"RanOutModel", "isAlive", "(III)Z"⟩, 72) := ⟨⟨by decide +kernel, by decide +kernel⟩, List.mem_of_getElem? (i := 1127) (by decide +kernel), List.mem_of_getElem? (i := 1624) (by decide +kernel), List.mem_of_getElem? (i := 1625) (by decide +kernel)⟩
theorem lw_p91 : lw_okq (⟨"RanOutModel", "cheapestSet", "()I"⟩, 72) := ⟨⟨by decide +kernel, by decide +kernel⟩, List.mem_of_getElem? (i := 1127) (by decide +kernel), List.mem_of_getElem? (i := 1628) (by decide +kernel), List.mem_of_getElem? (i := 1629) (by decide +kernel)⟩
theorem lw_p92 : lw_okq (⟨"RanOutModel", "toldActs", "()I"⟩, 72) := ⟨⟨by decide +kernel, by decide +kernel⟩, List.mem_of_getElem? (i := 1127) (by decide +kernel), List.mem_of_getElem? (i := 1632) (by decide +kernel), List.mem_of_getElem? (i := 1633) (by decide +kernel)⟩
theorem lw_p93 : lw_okq (⟨"RanOutModel", "costOf", "(I)I"⟩, 72) := ⟨⟨by decide +kernel, by decide +kernel⟩, List.mem_of_getElem? (i := 1127) (by decide +kernel), List.mem_of_getElem? (i := 1636) (by decide +kernel), List.mem_of_getElem? (i := 1637) (by decide +kernel)⟩
theorem lw_p94 : lw_okq (⟨"RanOutModel", "ones", "(I)I"⟩, 72) := ⟨⟨by decide +kernel, by decide +kernel⟩, List.mem_of_getElem? (i := 1127) (by decide +kernel), List.mem_of_getElem? (i := 1640) (by decide +kernel), List.mem_of_getElem? (i := 1641) (by decide +kernel)⟩
theorem lw_p95 : lw_okq (⟨"RanOutModel", "sumBy", "(I)I"⟩, 72) := ⟨⟨by decide +kernel, by decide +kernel⟩, List.mem_of_getElem? (i := 1127) (by decide +kernel), List.mem_of_getElem? (i := 1648) (by decide +kernel), List.mem_of_getElem? (i := 1649) (by decide +kernel)⟩
def lw_privs_6 : List (MethodName × Nat) := [(⟨"RanOutModel", "rolls", "(I)Z"⟩, 72), (⟨"RanOutModel", "isOff", "(I)Z"⟩, 72), (⟨"RanOutModel", "tells", "(I)I"⟩, 72), (⟨"RanOutModel", "aheadOf", "(II)V"⟩, 72), (⟨"RanOutModel", "hangs", "(I)I"⟩, 72), (⟨"RanOutModel", "spans", "(I)V"⟩, 72), (⟨"RanOutModel", "canAsk", "(I)Z"⟩, 72), (⟨"RanOutModel", "findsWanted", "(I)V"⟩, 72), (⟨"RanOutModel", "findsAlive", "(II)V"⟩, 72), (⟨"RanOutModel", "actsOf", "(I)I"⟩, 72), (⟨"RanOutModel", "isAlive", "(III)Z"⟩, 72), (⟨"RanOutModel", "cheapestSet", "()I"⟩, 72), (⟨"RanOutModel", "toldActs", "()I"⟩, 72), (⟨"RanOutModel", "costOf", "(I)I"⟩, 72), (⟨"RanOutModel", "ones", "(I)I"⟩, 72), (⟨"RanOutModel", "sumBy", "(I)I"⟩, 72)]
theorem lw_r6 : ∀ q ∈ lw_privs_6, lw_okq q := List.forall_mem_cons.mpr ⟨lw_p80, List.forall_mem_cons.mpr ⟨lw_p81, List.forall_mem_cons.mpr ⟨lw_p82, List.forall_mem_cons.mpr ⟨lw_p83, List.forall_mem_cons.mpr ⟨lw_p84, List.forall_mem_cons.mpr ⟨lw_p85, List.forall_mem_cons.mpr ⟨lw_p86, List.forall_mem_cons.mpr ⟨lw_p87, List.forall_mem_cons.mpr ⟨lw_p88, List.forall_mem_cons.mpr ⟨lw_p89, List.forall_mem_cons.mpr ⟨lw_p90, List.forall_mem_cons.mpr ⟨lw_p91, List.forall_mem_cons.mpr ⟨lw_p92, List.forall_mem_cons.mpr ⟨lw_p93, List.forall_mem_cons.mpr ⟨lw_p94, List.forall_mem_cons.mpr ⟨lw_p95, fun _ h => absurd h List.not_mem_nil⟩⟩⟩⟩⟩⟩⟩⟩⟩⟩⟩⟩⟩⟩⟩⟩
theorem lw_p96 : lw_okq (⟨"RanOutModel", "aliveBy", "(I)I"⟩, 72) := ⟨⟨by decide +kernel, by decide +kernel⟩, List.mem_of_getElem? (i := 1127) (by decide +kernel), List.mem_of_getElem? (i := 1656) (by decide +kernel), List.mem_of_getElem? (i := 1657) (by decide +kernel)⟩
theorem lw_p97 : lw_okq (⟨"RanOutModel", "findsContest", "(II)V"⟩, 72) := ⟨⟨by decide +kernel, by decide +kernel⟩, List.mem_of_getElem? (i := 1127) (by decide +kernel), List.mem_of_getElem? (i := 1670) (by decide +kernel), List.mem_of_getElem? (i := 1671) (by decide +kernel)⟩
theorem lw_p98 : lw_okq (⟨"RanOutModel", "findsDisputes", "()V"⟩, 72) := ⟨⟨by decide +kernel, by decide +kernel⟩, List.mem_of_getElem? (i := 1127) (by decide +kernel), List.mem_of_getElem? (i := 1674) (by decide +kernel), List.mem_of_getElem? (i := 1675) (by decide +kernel)⟩
theorem lw_p99 : lw_okq (⟨"RanOutModel", "costWithout", "(II)I"⟩, 72) := ⟨⟨by decide +kernel, by decide +kernel⟩, List.mem_of_getElem? (i := 1127) (by decide +kernel), List.mem_of_getElem? (i := 1678) (by decide +kernel), List.mem_of_getElem? (i := 1679) (by decide +kernel)⟩
theorem lw_p100 : lw_okq (⟨"RanOutModel", "takesAway", "(IIZ)V"⟩, 72) := ⟨⟨by decide +kernel, by decide +kernel⟩, List.mem_of_getElem? (i := 1127) (by decide +kernel), List.mem_of_getElem? (i := 1682) (by decide +kernel), List.mem_of_getElem? (i := 1683) (by decide +kernel)⟩
theorem lw_p101 : lw_okq (⟨"RanOutModel", "isAhead", "(II)Z"⟩, 72) := ⟨⟨by decide +kernel, by decide +kernel⟩, List.mem_of_getElem? (i := 1127) (by decide +kernel), List.mem_of_getElem? (i := 1686) (by decide +kernel), List.mem_of_getElem? (i := 1687) (by decide +kernel)⟩
theorem lw_p102 : lw_okq (⟨"RanOutModel", "isDeadNow", "(I)Z"⟩, 72) := ⟨⟨by decide +kernel, by decide +kernel⟩, List.mem_of_getElem? (i := 1127) (by decide +kernel), List.mem_of_getElem? (i := 1694) (by decide +kernel), List.mem_of_getElem? (i := 1695) (by decide +kernel)⟩
theorem lw_p103 : lw_okq (⟨"RanOutModel", "kept", "(I)I"⟩, 72) := ⟨⟨by decide +kernel, by decide +kernel⟩, List.mem_of_getElem? (i := 1127) (by decide +kernel), List.mem_of_getElem? (i := 1702) (by decide +kernel), List.mem_of_getElem? (i := 1703) (by decide +kernel)⟩
theorem lw_p104 : lw_okq (⟨"RanOutModel", "keepsClaims", "()V"⟩, 72) := ⟨⟨by decide +kernel, by decide +kernel⟩, List.mem_of_getElem? (i := 1127) (by decide +kernel), List.mem_of_getElem? (i := 1706) (by decide +kernel), List.mem_of_getElem? (i := 1707) (by decide +kernel)⟩
theorem lw_p105 : lw_okq (⟨"RanOutModel", "keepsLaws", "()V"⟩, 72) := ⟨⟨by decide +kernel, by decide +kernel⟩, List.mem_of_getElem? (i := 1127) (by decide +kernel), List.mem_of_getElem? (i := 1710) (by decide +kernel), List.mem_of_getElem? (i := 1711) (by decide +kernel)⟩
theorem lw_p106 : lw_okq (⟨"RanOutModel", "aliveNow", "(Z)I"⟩, 72) := ⟨⟨by decide +kernel, by decide +kernel⟩, List.mem_of_getElem? (i := 1127) (by decide +kernel), List.mem_of_getElem? (i := 1718) (by decide +kernel), List.mem_of_getElem? (i := 1719) (by decide +kernel)⟩
def lw_privs_7 : List (MethodName × Nat) := [(⟨"RanOutModel", "aliveBy", "(I)I"⟩, 72), (⟨"RanOutModel", "findsContest", "(II)V"⟩, 72), (⟨"RanOutModel", "findsDisputes", "()V"⟩, 72), (⟨"RanOutModel", "costWithout", "(II)I"⟩, 72), (⟨"RanOutModel", "takesAway", "(IIZ)V"⟩, 72), (⟨"RanOutModel", "isAhead", "(II)Z"⟩, 72), (⟨"RanOutModel", "isDeadNow", "(I)Z"⟩, 72), (⟨"RanOutModel", "kept", "(I)I"⟩, 72), (⟨"RanOutModel", "keepsClaims", "()V"⟩, 72), (⟨"RanOutModel", "keepsLaws", "()V"⟩, 72), (⟨"RanOutModel", "aliveNow", "(Z)I"⟩, 72)]
theorem lw_r7 : ∀ q ∈ lw_privs_7, lw_okq q := List.forall_mem_cons.mpr ⟨lw_p96, List.forall_mem_cons.mpr ⟨lw_p97, List.forall_mem_cons.mpr ⟨lw_p98, List.forall_mem_cons.mpr ⟨lw_p99, List.forall_mem_cons.mpr ⟨lw_p100, List.forall_mem_cons.mpr ⟨lw_p101, List.forall_mem_cons.mpr ⟨lw_p102, List.forall_mem_cons.mpr ⟨lw_p103, List.forall_mem_cons.mpr ⟨lw_p104, List.forall_mem_cons.mpr ⟨lw_p105, List.forall_mem_cons.mpr ⟨lw_p106, fun _ h => absurd h List.not_mem_nil⟩⟩⟩⟩⟩⟩⟩⟩⟩⟩⟩
def lw_privs : List (MethodName × Nat) := lw_privs_1 ++ (lw_privs_2 ++ (lw_privs_3 ++ (lw_privs_4 ++ (lw_privs_5 ++ (lw_privs_6 ++ (lw_privs_7))))))
def lw_tbl : List Cond := k2_sels lw_privs ++ tables_1
theorem lw_privs_ok : ∀ q ∈ lw_privs, lw_okq q := by
  show ∀ q ∈ lw_privs_1 ++ (lw_privs_2 ++ (lw_privs_3 ++ (lw_privs_4 ++ (lw_privs_5 ++ (lw_privs_6 ++ (lw_privs_7)))))), lw_okq q
  exact List.forall_mem_append.mpr ⟨lw_r1, List.forall_mem_append.mpr ⟨lw_r2, List.forall_mem_append.mpr ⟨lw_r3, List.forall_mem_append.mpr ⟨lw_r4, List.forall_mem_append.mpr ⟨lw_r5, List.forall_mem_append.mpr ⟨lw_r6, lw_r7⟩⟩⟩⟩⟩⟩
end
section
def mq_f0 : u_T := fun k => match k with
  | 0 => ("RanOut$Acts", "sort", "[I", true)
  | 1 => ("RanOut$Acts", "day", "[I", true)
  | 2 => ("RanOut$Acts", "cost", "[I", true)
  | _ => ("RanOut$Acts", "claim", "[I", true)
def mq_t0 : Nat → FieldType := fun k => match k with
  | 0 => (.array .int)
  | 1 => (.array .int)
  | 2 => (.array .int)
  | _ => (.array .int)
def mq_f1 : u_T := fun k => match k with
  | 0 => ("RanOut$Book", "today", "I", false)
  | 1 => ("RanOut$Book", "places", "LRanOut$Places;", true)
  | 2 => ("RanOut$Book", "claims", "LRanOut$Claims;", true)
  | _ => ("RanOut$Book", "acts", "LRanOut$Acts;", true)
def mq_t1 : Nat → FieldType := fun k => match k with
  | 0 => .int
  | 1 => (.object "RanOut$Places")
  | 2 => (.object "RanOut$Claims")
  | _ => (.object "RanOut$Acts")
def mq_f2 : u_T := fun k => match k with
  | 0 => ("RanOut$Case", "book", "LRanOut$Book;", true)
  | 1 => ("RanOut$Case", "claim", "I", false)
  | 2 => ("RanOut$Case", "kind", "I", false)
  | 3 => ("RanOut$Case", "sum", "I", false)
  | 4 => ("RanOut$Case", "place", "I", false)
  | 5 => ("RanOut$Case", "starts", "[I", true)
  | 6 => ("RanOut$Case", "factCount", "I", false)
  | 7 => ("RanOut$Case", "sort", "[I", true)
  | 8 => ("RanOut$Case", "from", "[I", true)
  | 9 => ("RanOut$Case", "to", "[I", true)
  | 10 => ("RanOut$Case", "lawCount", "I", false)
  | 11 => ("RanOut$Case", "lawFrom", "[I", true)
  | _ => ("RanOut$Case", "lawIs", "[I", true)
def mq_t2 : Nat → FieldType := fun k => match k with
  | 0 => (.object "RanOut$Book")
  | 1 => .int
  | 2 => .int
  | 3 => .int
  | 4 => .int
  | 5 => (.array .int)
  | 6 => .int
  | 7 => (.array .int)
  | 8 => (.array .int)
  | 9 => (.array .int)
  | 10 => .int
  | 11 => (.array .int)
  | _ => (.array .int)
def mq_f3 : u_T := fun k => match k with
  | 0 => ("RanOut$Claims", "count", "I", false)
  | 1 => ("RanOut$Claims", "place", "[I", true)
  | 2 => ("RanOut$Claims", "kind", "[I", true)
  | 3 => ("RanOut$Claims", "sum", "[I", true)
  | 4 => ("RanOut$Claims", "done", "[I", true)
  | 5 => ("RanOut$Claims", "known", "[I", true)
  | 6 => ("RanOut$Claims", "due", "[I", true)
  | 7 => ("RanOut$Claims", "wanted", "[Z", true)
  | 8 => ("RanOut$Claims", "factCount", "[I", true)
  | 9 => ("RanOut$Claims", "factSort", "[I", true)
  | 10 => ("RanOut$Claims", "factFrom", "[I", true)
  | 11 => ("RanOut$Claims", "factTo", "[I", true)
  | _ => ("RanOut$Claims", "factDoubt", "[I", true)
def mq_t3 : Nat → FieldType := fun k => match k with
  | 0 => .int
  | 1 => (.array .int)
  | 2 => (.array .int)
  | 3 => (.array .int)
  | 4 => (.array .int)
  | 5 => (.array .int)
  | 6 => (.array .int)
  | 7 => (.array .boolean)
  | 8 => (.array .int)
  | 9 => (.array .int)
  | 10 => (.array .int)
  | 11 => (.array .int)
  | _ => (.array .int)
def mq_f4 : u_T := fun k => match k with
  | 0 => ("RanOut$Clock", "loaded", "LRanOut$Case;", true)
  | 1 => ("RanOut$Clock", "book", "LRanOut$Book;", true)
  | 2 => ("RanOut$Clock", "ran", "I", false)
  | 3 => ("RanOut$Clock", "term", "I", false)
  | 4 => ("RanOut$Clock", "law", "I", false)
  | 5 => ("RanOut$Clock", "how", "I", false)
  | 6 => ("RanOut$Clock", "termStart", "I", false)
  | 7 => ("RanOut$Clock", "next", "I", false)
  | 8 => ("RanOut$Clock", "over", "Z", false)
  | 9 => ("RanOut$Clock", "ranAhead", "I", false)
  | 10 => ("RanOut$Clock", "askedRan", "Z", false)
  | 11 => ("RanOut$Clock", "stack", "[I", true)
  | 12 => ("RanOut$Clock", "markedNext", "I", false)
  | 13 => ("RanOut$Clock", "markedRan", "I", false)
  | 14 => ("RanOut$Clock", "markedHow", "I", false)
  | _ => ("RanOut$Clock", "markedOver", "Z", false)
def mq_t4 : Nat → FieldType := fun k => match k with
  | 0 => (.object "RanOut$Case")
  | 1 => (.object "RanOut$Book")
  | 2 => .int
  | 3 => .int
  | 4 => .int
  | 5 => .int
  | 6 => .int
  | 7 => .int
  | 8 => .boolean
  | 9 => .int
  | 10 => .boolean
  | 11 => (.array .int)
  | 12 => .int
  | 13 => .int
  | 14 => .int
  | _ => .boolean
def mq_f5 : u_T := fun k => match k with
  | 0 => ("RanOut$LastDays", "earliest", "[I", true)
  | 1 => ("RanOut$LastDays", "latest", "[I", true)
  | 2 => ("RanOut$LastDays", "hangs", "[I", true)
  | 3 => ("RanOut$LastDays", "lasts", "[I", true)
  | 4 => ("RanOut$LastDays", "book", "LRanOut$Book;", true)
  | _ => ("RanOut$LastDays", "clock", "LRanOut$Clock;", true)
def mq_t5 : Nat → FieldType := fun k => match k with
  | 0 => (.array .int)
  | 1 => (.array .int)
  | 2 => (.array .int)
  | 3 => (.array .int)
  | 4 => (.object "RanOut$Book")
  | _ => (.object "RanOut$Clock")
def mq_f6 : u_T := fun k => match k with
  | 0 => ("RanOut$Law", "lines", "[LRanOut$Line;", true)
  | _ => ("RanOut$Law", "rolls", "Z", true)
def mq_t6 : Nat → FieldType := fun k => match k with
  | 0 => (.array (.object "RanOut$Line"))
  | _ => .boolean
def mq_f7 : u_T := fun k => match k with
  | 0 => ("RanOut$Line", "kind", "I", true)
  | 1 => ("RanOut$Line", "days", "I", true)
  | 2 => ("RanOut$Line", "start", "I", true)
  | 3 => ("RanOut$Line", "sort", "I", true)
  | 4 => ("RanOut$Line", "condition", "[I", true)
  | _ => ("RanOut$Line", "asksRan", "Z", true)
def mq_t7 : Nat → FieldType := fun k => match k with
  | 0 => .int
  | 1 => .int
  | 2 => .int
  | 3 => .int
  | 4 => (.array .int)
  | _ => .boolean
def mq_f8 : u_T := fun k => match k with
  | 0 => ("RanOut$Places", "holidays", "[I", true)
  | 1 => ("RanOut$Places", "holidayCount", "I", false)
  | 2 => ("RanOut$Places", "firstLaw", "[I", true)
  | 3 => ("RanOut$Places", "changeCount", "[I", true)
  | 4 => ("RanOut$Places", "changeDay", "[I", true)
  | 5 => ("RanOut$Places", "changeLaw", "[I", true)
  | 6 => ("RanOut$Places", "changeAll", "[Z", true)
  | _ => ("RanOut$Places", "laws", "[LRanOut$Law;", true)
def mq_t8 : Nat → FieldType := fun k => match k with
  | 0 => (.array .int)
  | 1 => .int
  | 2 => (.array .int)
  | 3 => (.array .int)
  | 4 => (.array .int)
  | 5 => (.array .int)
  | 6 => (.array .boolean)
  | _ => (.array (.object "RanOut$Law"))
def mq_f9 : u_T := fun k => match k with
  | 0 => ("RanOut$Plan", "dearestCost", "I", false)
  | 1 => ("RanOut$Plan", "dearestFirst", "I", false)
  | 2 => ("RanOut$Plan", "dearestSecond", "I", false)
  | 3 => ("RanOut$Plan", "book", "LRanOut$Book;", true)
  | 4 => ("RanOut$Plan", "clock", "LRanOut$Clock;", true)
  | 5 => ("RanOut$Plan", "lastDays", "LRanOut$LastDays;", true)
  | 6 => ("RanOut$Plan", "alive", "[J", true)
  | 7 => ("RanOut$Plan", "contested", "[I", true)
  | 8 => ("RanOut$Plan", "without", "[J", true)
  | 9 => ("RanOut$Plan", "withoutBoth", "[J", true)
  | _ => ("RanOut$Plan", "contestedCount", "I", false)
def mq_t9 : Nat → FieldType := fun k => match k with
  | 0 => .int
  | 1 => .int
  | 2 => .int
  | 3 => (.object "RanOut$Book")
  | 4 => (.object "RanOut$Clock")
  | 5 => (.object "RanOut$LastDays")
  | 6 => (.array .long)
  | 7 => (.array .int)
  | 8 => (.array .long)
  | 9 => (.array .long)
  | _ => .int
def mq_f10 : u_T := fun k => match k with
  | 0 => ("RanOut$Reader", "tape", "[B", true)
  | 1 => ("RanOut$Reader", "length", "I", false)
  | 2 => ("RanOut$Reader", "faultKind", "I", false)
  | 3 => ("RanOut$Reader", "faultPlace", "I", false)
  | 4 => ("RanOut$Reader", "token", "I", false)
  | 5 => ("RanOut$Reader", "number", "I", false)
  | 6 => ("RanOut$Reader", "tokenPlace", "I", false)
  | 7 => ("RanOut$Reader", "nextPlace", "I", false)
  | 8 => ("RanOut$Reader", "lines", "[LRanOut$Line;", true)
  | 9 => ("RanOut$Reader", "lineCount", "I", false)
  | 10 => ("RanOut$Reader", "condition", "[I", true)
  | 11 => ("RanOut$Reader", "conditionLength", "I", false)
  | 12 => ("RanOut$Reader", "asksRan", "Z", false)
  | 13 => ("RanOut$Reader", "waiting", "[I", true)
  | 14 => ("RanOut$Reader", "waitingCount", "I", false)
  | 15 => ("RanOut$Reader", "openCount", "I", false)
  | 16 => ("RanOut$Reader", "bracketCount", "I", false)
  | _ => ("RanOut$Reader", "right", "Z", false)
def mq_t10 : Nat → FieldType := fun k => match k with
  | 0 => (.array .byte)
  | 1 => .int
  | 2 => .int
  | 3 => .int
  | 4 => .int
  | 5 => .int
  | 6 => .int
  | 7 => .int
  | 8 => (.array (.object "RanOut$Line"))
  | 9 => .int
  | 10 => (.array .int)
  | 11 => .int
  | 12 => .boolean
  | 13 => (.array .int)
  | 14 => .int
  | 15 => .int
  | 16 => .int
  | _ => .boolean
def mq_f11 : u_T := fun k => match k with
  | 0 => ("RanOut", "book", "LRanOut$Book;", true)
  | 1 => ("RanOut", "reader", "LRanOut$Reader;", true)
  | 2 => ("RanOut", "clock", "LRanOut$Clock;", true)
  | 3 => ("RanOut", "lastDays", "LRanOut$LastDays;", true)
  | 4 => ("RanOut", "plan", "LRanOut$Plan;", true)
  | _ => ("RanOut", "saved", "LRanOut$Book;", false)
def mq_t11 : Nat → FieldType := fun k => match k with
  | 0 => (.object "RanOut$Book")
  | 1 => (.object "RanOut$Reader")
  | 2 => (.object "RanOut$Clock")
  | 3 => (.object "RanOut$LastDays")
  | 4 => (.object "RanOut$Plan")
  | _ => (.object "RanOut$Book")
def mq_f12 : u_T := fun k => match k with
  | 0 => ("RanOutModel", "told", "I", false)
  | 1 => ("RanOutModel", "today", "I", false)
  | 2 => ("RanOutModel", "holidays", "I", false)
  | 3 => ("RanOutModel", "holiday", "[I", true)
  | 4 => ("RanOutModel", "lawOf", "[I", true)
  | 5 => ("RanOutModel", "changes", "[I", true)
  | 6 => ("RanOutModel", "changeDay", "[I", true)
  | 7 => ("RanOutModel", "changeLaw", "[I", true)
  | 8 => ("RanOutModel", "changeAll", "[I", true)
  | 9 => ("RanOutModel", "claims", "I", false)
  | 10 => ("RanOutModel", "placeOf", "[I", true)
  | 11 => ("RanOutModel", "kindOf", "[I", true)
  | 12 => ("RanOutModel", "sumOf", "[I", true)
  | 13 => ("RanOutModel", "dayOf", "[I", true)
  | 14 => ("RanOutModel", "wanted", "[I", true)
  | 15 => ("RanOutModel", "facts", "[I", true)
  | 16 => ("RanOutModel", "factSort", "[I", true)
  | 17 => ("RanOutModel", "factFrom", "[I", true)
  | 18 => ("RanOutModel", "factTo", "[I", true)
  | 19 => ("RanOutModel", "factDoubt", "[I", true)
  | 20 => ("RanOutModel", "actSort", "[I", true)
  | 21 => ("RanOutModel", "actDay", "[I", true)
  | 22 => ("RanOutModel", "actCost", "[I", true)
  | 23 => ("RanOutModel", "actClaim", "[I", true)
  | 24 => ("RanOutModel", "tape", "[I", true)
  | 25 => ("RanOutModel", "taped", "I", false)
  | 26 => ("RanOutModel", "spot", "I", false)
  | 27 => ("RanOutModel", "from", "I", false)
  | 28 => ("RanOutModel", "token", "I", false)
  | 29 => ("RanOutModel", "value", "I", false)
  | 30 => ("RanOutModel", "words", "[I", true)
  | 31 => ("RanOutModel", "lineMany", "[I", true)
  | 32 => ("RanOutModel", "lineWord", "[I", true)
  | 33 => ("RanOutModel", "lineDays", "[I", true)
  | 34 => ("RanOutModel", "lineDay", "[I", true)
  | 35 => ("RanOutModel", "lineFrom", "[I", true)
  | 36 => ("RanOutModel", "lineTo", "[I", true)
  | 37 => ("RanOutModel", "op", "[I", true)
  | 38 => ("RanOutModel", "arg", "[I", true)
  | 39 => ("RanOutModel", "codes", "I", false)
  | 40 => ("RanOutModel", "open", "I", false)
  | 41 => ("RanOutModel", "pending", "[I", true)
  | 42 => ("RanOutModel", "pendings", "I", false)
  | 43 => ("RanOutModel", "readFault", "I", false)
  | 44 => ("RanOutModel", "readPlace", "I", false)
  | 45 => ("RanOutModel", "faultKind", "I", false)
  | 46 => ("RanOutModel", "faultPlace", "I", false)
  | 47 => ("RanOutModel", "asked", "[I", true)
  | 48 => ("RanOutModel", "stack", "[I", true)
  | 49 => ("RanOutModel", "runSort", "[I", true)
  | 50 => ("RanOutModel", "runFrom", "[I", true)
  | 51 => ("RanOutModel", "runTo", "[I", true)
  | 52 => ("RanOutModel", "runs", "I", false)
  | 53 => ("RanOutModel", "without", "[I", true)
  | 54 => ("RanOutModel", "noLastOf", "I", false)
  | 55 => ("RanOutModel", "lawGone", "I", false)
  | 56 => ("RanOutModel", "lawInstead", "I", false)
  | 57 => ("RanOutModel", "stepRan", "I", false)
  | 58 => ("RanOutModel", "stepTerm", "I", false)
  | 59 => ("RanOutModel", "stepLaw", "I", false)
  | 60 => ("RanOutModel", "stepStands", "I", false)
  | 61 => ("RanOutModel", "earliest", "I", false)
  | 62 => ("RanOutModel", "latest", "I", false)
  | 63 => ("RanOutModel", "isAliveBy", "[I", true)
  | 64 => ("RanOutModel", "disputes", "I", false)
  | 65 => ("RanOutModel", "disputeOf", "[I", true)
  | 66 => ("RanOutModel", "contestSet", "I", false)
  | 67 => ("RanOutModel", "contestCost", "I", false)
  | 68 => ("RanOutModel", "isTaking", "Z", false)
  | 69 => ("RanOutModel", "hasImage", "Z", false)
  | 70 => ("RanOutModel", "at", "I", false)
  | _ => ("RanOutModel", "images", "[I", true)
def mq_t12 : Nat → FieldType := fun k => match k with
  | 0 => .int
  | 1 => .int
  | 2 => .int
  | 3 => (.array .int)
  | 4 => (.array .int)
  | 5 => (.array .int)
  | 6 => (.array .int)
  | 7 => (.array .int)
  | 8 => (.array .int)
  | 9 => .int
  | 10 => (.array .int)
  | 11 => (.array .int)
  | 12 => (.array .int)
  | 13 => (.array .int)
  | 14 => (.array .int)
  | 15 => (.array .int)
  | 16 => (.array .int)
  | 17 => (.array .int)
  | 18 => (.array .int)
  | 19 => (.array .int)
  | 20 => (.array .int)
  | 21 => (.array .int)
  | 22 => (.array .int)
  | 23 => (.array .int)
  | 24 => (.array .int)
  | 25 => .int
  | 26 => .int
  | 27 => .int
  | 28 => .int
  | 29 => .int
  | 30 => (.array .int)
  | 31 => (.array .int)
  | 32 => (.array .int)
  | 33 => (.array .int)
  | 34 => (.array .int)
  | 35 => (.array .int)
  | 36 => (.array .int)
  | 37 => (.array .int)
  | 38 => (.array .int)
  | 39 => .int
  | 40 => .int
  | 41 => (.array .int)
  | 42 => .int
  | 43 => .int
  | 44 => .int
  | 45 => .int
  | 46 => .int
  | 47 => (.array .int)
  | 48 => (.array .int)
  | 49 => (.array .int)
  | 50 => (.array .int)
  | 51 => (.array .int)
  | 52 => .int
  | 53 => (.array .int)
  | 54 => .int
  | 55 => .int
  | 56 => .int
  | 57 => .int
  | 58 => .int
  | 59 => .int
  | 60 => .int
  | 61 => .int
  | 62 => .int
  | 63 => (.array .int)
  | 64 => .int
  | 65 => (.array .int)
  | 66 => .int
  | 67 => .int
  | 68 => .boolean
  | 69 => .boolean
  | 70 => .int
  | _ => (.array .int)
def mq_cl : List vw_C := [("RanOut$Acts", mq_f0, 4), ("RanOut$Book", mq_f1, 4), ("RanOut$Case", mq_f2, 13), ("RanOut$Claims", mq_f3, 13), ("RanOut$Clock", mq_f4, 16), ("RanOut$LastDays", mq_f5, 6), ("RanOut$Law", mq_f6, 2), ("RanOut$Line", mq_f7, 6), ("RanOut$Places", mq_f8, 8), ("RanOut$Plan", mq_f9, 11), ("RanOut$Reader", mq_f10, 18), ("RanOut", mq_f11, 6), ("RanOutModel", mq_f12, 72)]
def mq_fty (ci : Nat) : Nat → FieldType := match ci with
  | 0 => mq_t0
  | 1 => mq_t1
  | 2 => mq_t2
  | 3 => mq_t3
  | 4 => mq_t4
  | 5 => mq_t5
  | 6 => mq_t6
  | 7 => mq_t7
  | 8 => mq_t8
  | 9 => mq_t9
  | 10 => mq_t10
  | 11 => mq_t11
  | _ => mq_t12
theorem mq_tok0 : ∀ k, k < 4 → parseFieldDescriptor (mq_f0 k).2.2.1 = some (mq_t0 k) := by decide +kernel
theorem mq_nm0 : ∀ a, a < 4 → ∀ b, b < 4 → a ≠ b → (mq_f0 a).2.1 ≠ (mq_f0 b).2.1 := by decide +kernel
theorem mq_tok1 : ∀ k, k < 4 → parseFieldDescriptor (mq_f1 k).2.2.1 = some (mq_t1 k) := by decide +kernel
theorem mq_nm1 : ∀ a, a < 4 → ∀ b, b < 4 → a ≠ b → (mq_f1 a).2.1 ≠ (mq_f1 b).2.1 := by decide +kernel
theorem mq_tok2 : ∀ k, k < 13 → parseFieldDescriptor (mq_f2 k).2.2.1 = some (mq_t2 k) := by decide +kernel
theorem mq_nm2 : ∀ a, a < 13 → ∀ b, b < 13 → a ≠ b → (mq_f2 a).2.1 ≠ (mq_f2 b).2.1 := by decide +kernel
theorem mq_tok3 : ∀ k, k < 13 → parseFieldDescriptor (mq_f3 k).2.2.1 = some (mq_t3 k) := by decide +kernel
theorem mq_nm3 : ∀ a, a < 13 → ∀ b, b < 13 → a ≠ b → (mq_f3 a).2.1 ≠ (mq_f3 b).2.1 := by decide +kernel
theorem mq_tok4 : ∀ k, k < 16 → parseFieldDescriptor (mq_f4 k).2.2.1 = some (mq_t4 k) := by decide +kernel
theorem mq_nm4 : ∀ a, a < 16 → ∀ b, b < 16 → a ≠ b → (mq_f4 a).2.1 ≠ (mq_f4 b).2.1 := by decide +kernel
theorem mq_tok5 : ∀ k, k < 6 → parseFieldDescriptor (mq_f5 k).2.2.1 = some (mq_t5 k) := by decide +kernel
theorem mq_nm5 : ∀ a, a < 6 → ∀ b, b < 6 → a ≠ b → (mq_f5 a).2.1 ≠ (mq_f5 b).2.1 := by decide +kernel
theorem mq_tok6 : ∀ k, k < 2 → parseFieldDescriptor (mq_f6 k).2.2.1 = some (mq_t6 k) := by decide +kernel
theorem mq_nm6 : ∀ a, a < 2 → ∀ b, b < 2 → a ≠ b → (mq_f6 a).2.1 ≠ (mq_f6 b).2.1 := by decide +kernel
theorem mq_tok7 : ∀ k, k < 6 → parseFieldDescriptor (mq_f7 k).2.2.1 = some (mq_t7 k) := by decide +kernel
theorem mq_nm7 : ∀ a, a < 6 → ∀ b, b < 6 → a ≠ b → (mq_f7 a).2.1 ≠ (mq_f7 b).2.1 := by decide +kernel
theorem mq_tok8 : ∀ k, k < 8 → parseFieldDescriptor (mq_f8 k).2.2.1 = some (mq_t8 k) := by decide +kernel
theorem mq_nm8 : ∀ a, a < 8 → ∀ b, b < 8 → a ≠ b → (mq_f8 a).2.1 ≠ (mq_f8 b).2.1 := by decide +kernel
theorem mq_tok9 : ∀ k, k < 11 → parseFieldDescriptor (mq_f9 k).2.2.1 = some (mq_t9 k) := by decide +kernel
theorem mq_nm9 : ∀ a, a < 11 → ∀ b, b < 11 → a ≠ b → (mq_f9 a).2.1 ≠ (mq_f9 b).2.1 := by decide +kernel
theorem mq_tok10 : ∀ k, k < 18 → parseFieldDescriptor (mq_f10 k).2.2.1 = some (mq_t10 k) := by decide +kernel
theorem mq_nm10 : ∀ a, a < 18 → ∀ b, b < 18 → a ≠ b → (mq_f10 a).2.1 ≠ (mq_f10 b).2.1 := by decide +kernel
theorem mq_tok11 : ∀ k, k < 6 → parseFieldDescriptor (mq_f11 k).2.2.1 = some (mq_t11 k) := by decide +kernel
theorem mq_nm11 : ∀ a, a < 6 → ∀ b, b < 6 → a ≠ b → (mq_f11 a).2.1 ≠ (mq_f11 b).2.1 := by decide +kernel
theorem mq_tok12 : ∀ k, k < 72 → parseFieldDescriptor (mq_f12 k).2.2.1 = some (mq_t12 k) := by decide +kernel
theorem mq_nm12 : ∀ a, a < 72 → ∀ b, b < 72 → a ≠ b → (mq_f12 a).2.1 ≠ (mq_f12 b).2.1 := by decide +kernel
theorem mq_in0 : ∀ w ∈ u_ws "RanOut$Acts" mq_f0 4, w ∈ lw_tbl := by
  have h : u_ws "RanOut$Acts" mq_f0 4 = ([304, 306, 308, 310] : List Nat).filterMap (fun i => lw_tbl[i]?) := by decide +kernel
  rw [h]; intro w hw; obtain ⟨i, -, hi⟩ := List.mem_filterMap.mp hw; exact List.mem_of_getElem? hi
theorem mq_in1 : ∀ w ∈ u_ws "RanOut$Book" mq_f1 4, w ∈ lw_tbl := by
  have h : u_ws "RanOut$Book" mq_f1 4 = ([330, 332, 334, 336] : List Nat).filterMap (fun i => lw_tbl[i]?) := by decide +kernel
  rw [h]; intro w hw; obtain ⟨i, -, hi⟩ := List.mem_filterMap.mp hw; exact List.mem_of_getElem? hi
theorem mq_in2 : ∀ w ∈ u_ws "RanOut$Case" mq_f2 13, w ∈ lw_tbl := by
  have h : u_ws "RanOut$Case" mq_f2 13 = ([434, 436, 438, 440, 442, 444, 446, 448, 450, 452, 454, 456, 458] : List Nat).filterMap (fun i => lw_tbl[i]?) := by decide +kernel
  rw [h]; intro w hw; obtain ⟨i, -, hi⟩ := List.mem_filterMap.mp hw; exact List.mem_of_getElem? hi
theorem mq_in3 : ∀ w ∈ u_ws "RanOut$Claims" mq_f3 13, w ∈ lw_tbl := by
  have h : u_ws "RanOut$Claims" mq_f3 13 = ([258, 260, 262, 264, 266, 268, 270, 272, 274, 276, 278, 280, 282] : List Nat).filterMap (fun i => lw_tbl[i]?) := by decide +kernel
  rw [h]; intro w hw; obtain ⟨i, -, hi⟩ := List.mem_filterMap.mp hw; exact List.mem_of_getElem? hi
theorem mq_in4 : ∀ w ∈ u_ws "RanOut$Clock" mq_f4 16, w ∈ lw_tbl := by
  have h : u_ws "RanOut$Clock" mq_f4 16 = ([484, 486, 488, 490, 492, 494, 496, 498, 500, 502, 504, 506, 508, 510, 512, 514] : List Nat).filterMap (fun i => lw_tbl[i]?) := by decide +kernel
  rw [h]; intro w hw; obtain ⟨i, -, hi⟩ := List.mem_filterMap.mp hw; exact List.mem_of_getElem? hi
theorem mq_in5 : ∀ w ∈ u_ws "RanOut$LastDays" mq_f5 6, w ∈ lw_tbl := by
  have h : u_ws "RanOut$LastDays" mq_f5 6 = ([537, 539, 541, 543, 545, 547] : List Nat).filterMap (fun i => lw_tbl[i]?) := by decide +kernel
  rw [h]; intro w hw; obtain ⟨i, -, hi⟩ := List.mem_filterMap.mp hw; exact List.mem_of_getElem? hi
theorem mq_in6 : ∀ w ∈ u_ws "RanOut$Law" mq_f6 2, w ∈ lw_tbl := by
  have h : u_ws "RanOut$Law" mq_f6 2 = ([168, 170] : List Nat).filterMap (fun i => lw_tbl[i]?) := by decide +kernel
  rw [h]; intro w hw; obtain ⟨i, -, hi⟩ := List.mem_filterMap.mp hw; exact List.mem_of_getElem? hi
theorem mq_in7 : ∀ w ∈ u_ws "RanOut$Line" mq_f7 6, w ∈ lw_tbl := by
  have h : u_ws "RanOut$Line" mq_f7 6 = ([835, 837, 839, 841, 843, 845] : List Nat).filterMap (fun i => lw_tbl[i]?) := by decide +kernel
  rw [h]; intro w hw; obtain ⟨i, -, hi⟩ := List.mem_filterMap.mp hw; exact List.mem_of_getElem? hi
theorem mq_in8 : ∀ w ∈ u_ws "RanOut$Places" mq_f8 8, w ∈ lw_tbl := by
  have h : u_ws "RanOut$Places" mq_f8 8 = ([193, 195, 197, 199, 201, 203, 205, 207] : List Nat).filterMap (fun i => lw_tbl[i]?) := by decide +kernel
  rw [h]; intro w hw; obtain ⟨i, -, hi⟩ := List.mem_filterMap.mp hw; exact List.mem_of_getElem? hi
theorem mq_in9 : ∀ w ∈ u_ws "RanOut$Plan" mq_f9 11, w ∈ lw_tbl := by
  have h : u_ws "RanOut$Plan" mq_f9 11 = ([570, 572, 574, 576, 578, 580, 582, 584, 586, 588, 590] : List Nat).filterMap (fun i => lw_tbl[i]?) := by decide +kernel
  rw [h]; intro w hw; obtain ⟨i, -, hi⟩ := List.mem_filterMap.mp hw; exact List.mem_of_getElem? hi
theorem mq_in10 : ∀ w ∈ u_ws "RanOut$Reader" mq_f10 18, w ∈ lw_tbl := by
  have h : u_ws "RanOut$Reader" mq_f10 18 = ([367, 369, 371, 373, 375, 377, 379, 381, 383, 385, 387, 389, 391, 393, 395, 397, 399, 401] : List Nat).filterMap (fun i => lw_tbl[i]?) := by decide +kernel
  rw [h]; intro w hw; obtain ⟨i, -, hi⟩ := List.mem_filterMap.mp hw; exact List.mem_of_getElem? hi
theorem mq_in11 : ∀ w ∈ u_ws "RanOut" mq_f11 6, w ∈ lw_tbl := by
  have h : u_ws "RanOut" mq_f11 6 = ([600, 602, 604, 606, 608, 610] : List Nat).filterMap (fun i => lw_tbl[i]?) := by decide +kernel
  rw [h]; intro w hw; obtain ⟨i, -, hi⟩ := List.mem_filterMap.mp hw; exact List.mem_of_getElem? hi
theorem mq_in12 : ∀ w ∈ u_ws "RanOutModel" mq_f12 72, w ∈ lw_tbl := by
  have h : u_ws "RanOutModel" mq_f12 72 = ([1311, 1313, 1315, 1317, 1319, 1321, 1323, 1325, 1327, 1329, 1331, 1333, 1335, 1337, 1339, 1341, 1343, 1345, 1347, 1349, 1351, 1353, 1355, 1357, 1359, 1361, 1363, 1365, 1367, 1369, 1371, 1373, 1375, 1377, 1379, 1381, 1383, 1385, 1387, 1389, 1391, 1393, 1395, 1397, 1399, 1401, 1403, 1405, 1407, 1409, 1411, 1413, 1415, 1417, 1419, 1421, 1423, 1425, 1427, 1429, 1431, 1433, 1435, 1437, 1439, 1441, 1443, 1445, 1447, 1449, 1451, 1453] : List Nat).filterMap (fun i => lw_tbl[i]?) := by decide +kernel
  rw [h]; intro w hw; obtain ⟨i, -, hi⟩ := List.mem_filterMap.mp hw; exact List.mem_of_getElem? hi
end
section
-- ===== end of PART A; then your names; then what follows =====
/-! THE CLAIM OUT OF ONE WALK OF THE LAW'S BODY. Your part is whole_start (and what it stands on); all else here is the same for every law, but numbers. -/
def R_law : String := "RanOutLaw"
def lw_P (b : Addr) (xs : List Int32) (args : Array Value) (s : State) : Prop := args = #[.ref b] ∧ s.IntsAt b xs ∧ xs.length ≤ 512 ∧ (Jvm.Cond.and given_1 narrow_1).before args s = true
def lw_Q (_ : Array Value) (s : State) (o : Outcome) (t : State) : Prop := o = .returned (some (.int 1)) ∧ Framed s o t [] 600000 7302250
def lw_Z (below : List Frame) (a : Array Value) (s : State) : State → Prop := fun t => ∃ o, t.status = .running ∧ Ended t below o ∧ lw_Q a s o t
/-- the law's own end, with 1 on the stack, nothing written that was there before, its room as the claim has it -/
theorem lw_ret {p : Program} {l : Launch} {e : Env} {s : State} {m : MethodId} {below : List Frame} {meth : Method} {c : Code} {b : Nat} (hx : p.tables.exec = Jvm.exec) (hb : c.code = code) (hr : meth.sig.returnType = ret) (hlocks : meth.locks = false) {pc : Nat} {H : Heap} {ls : Array Slot} (hdg : decode code pc = .ok (.ireturn, 1)) : W p l e room_1 s m #[Value.ref b] below meth c H [] 600000 7302250 (lw_Z below #[Value.ref b] s) (F0 m pc ls [.int 1]) := by
  intro T hT X
  obtain ⟨fs, hret, hrun, hended, hW, hframe⟩ := X.leave (v := some (.int 1)) (hlocks := hlocks) (fun h => by rw [hr] at h; cases h)
  have hmeth' : T.vm.method? m = some meth := X.method'
  refine ⟨T.setFrames fs, ?_, .returned (some (.int 1)), hrun, hended, rfl, ⟨_, rfl⟩, hW, hframe⟩
  jvm_step X.here [X.here.top, hx, hb, hdg, hmeth', hr, ret, narrow_b1]
  (try refine ⟨rfl, ?_⟩); (try refine ⟨rfl, ?_⟩)
  first | (intro acts; rw [hret _ acts rfl rfl rfl]) | rw [hret _ _ rfl rfl rfl]
  exact Steps.refl _
/-- what holds at the law's entry: the machine, the code, the tables' words (any of lw_tbl by 'hts w (by decide +kernel)'), the script of L ints xs at the cell b, what the Statement gives of the start (any of its parts by flat_of_before) -/
def lw_At (p : Program) (s : State) (m : MethodId) (meth : Method) (c : Code) (b L : Nat) (xs : Nat → Int32) : Prop :=
  p.tables.exec = Jvm.exec ∧ c.code = code ∧ meth.sig.returnType = ret ∧ c.maxLocals = 4 ∧ s.vm.findClass R_law = some m.cls ∧ (∀ w ∈ lw_tbl, w.before #[Value.ref b] s = true) ∧ va_X b L xs s s.heap ∧ b < s.heap.size ∧ meth.locks = false ∧ (Jvm.Cond.and given_1 narrow_1).before #[Value.ref b] s = true
end
section
def jk_wb : List Int32 := [116, 101, 114, 109, 32, 32, 108, 111, 110, 103, 32, 32, 115, 116, 111, 112, 32, 32, 114, 101, 110, 101, 119, 32, 114, 111, 108, 108, 32, 32, 102, 114, 111, 109, 32, 32, 119, 104, 101, 110, 32, 32, 100, 97, 121, 115, 32, 32, 109, 111, 110, 116, 104, 115, 121, 101, 97, 114, 115, 32, 100, 111, 110, 101, 32, 32, 107, 110, 111, 119, 110, 32, 100, 117, 101, 32, 32, 32, 99, 104, 105, 108, 100, 32, 97, 98, 114, 111, 97, 100, 119, 97, 114, 32, 32, 32, 116, 97, 108, 107, 115, 32, 97, 115, 107, 32, 32, 32, 112, 97, 121, 32, 32, 32, 108, 101, 116, 116, 101, 114, 115, 117, 105, 116, 32, 32, 111, 114, 32, 32, 32, 32, 97, 110, 100, 32, 32, 32, 110, 111, 116, 32, 32, 32, 107, 105, 110, 100, 32, 32, 115, 117, 109, 32, 32, 32, 112, 108, 97, 99, 101, 32, 121, 101, 97, 114, 32, 32, 114, 97, 110, 32, 32, 32]
def jk_w (j : Nat) : Int32 := jk_wb.getD j 0
def jk_ud (j : Nat) : Int32 := match j with
  | 0 => 1
  | 1 => 30
  | _ => 365
def jk_wn : Nat := 174
def jk_iW : Nat := 167
def jk_iU : Nat := 95
def jk_iC : Nat := 169
end
section
/-! THE ABSTRACT MACHINE. A heap of numbered cells (0 .. 3: cells from outside; from 4 on those that the law makes, in their order), a step per instruction as data, a run. References: '.retAddr k' is a reference to cell k whose shape (and unchanging reference fields) the static table T knows; '.ref k' is any other reference to cell k. -/
abbrev mq_S : Type := Nat ⊕ (Nat × Nat)
abbrev mq_H : Type := Nat × Nat × (Nat → mq_S) × (Nat → Nat → Int32) × (Nat → Nat → Int64) × (Nat → Nat → Option Nat)
abbrev mq_L : Type := List (Option Value)
def mq_N (h : mq_H) : Nat := h.1
def mq_Z (h : mq_H) : Nat := h.2.1
def mq_sh (h : mq_H) (a : Nat) : mq_S := h.2.2.1 a
def mq_I (h : mq_H) (a k : Nat) : Int32 := h.2.2.2.1 a k
def mq_J (h : mq_H) (a k : Nat) : Int64 := h.2.2.2.2.1 a k
def mq_R (h : mq_H) (a k : Nat) : Option Nat := h.2.2.2.2.2 a k
def mq_setI (h : mq_H) (a k : Nat) (v : Int32) : mq_H := (h.1, h.2.1, h.2.2.1, (fun b j => if b = a then (if j = k then v else h.2.2.2.1 b j) else h.2.2.2.1 b j), h.2.2.2.2.1, h.2.2.2.2.2)
def mq_setJ (h : mq_H) (a k : Nat) (v : Int64) : mq_H := (h.1, h.2.1, h.2.2.1, h.2.2.2.1, (fun b j => if b = a then (if j = k then v else h.2.2.2.2.1 b j) else h.2.2.2.2.1 b j), h.2.2.2.2.2)
def mq_setR (h : mq_H) (a k : Nat) (v : Option Nat) : mq_H := (h.1, h.2.1, h.2.2.1, h.2.2.2.1, h.2.2.2.2.1, (fun b j => if b = a then (if j = k then v else h.2.2.2.2.2 b j) else h.2.2.2.2.2 b j))
/-- a new cell of a shape, its fields or elements 0 or null -/
def mq_new (h : mq_H) (sh : mq_S) (z : Nat) : mq_H := (h.1 + 1, h.2.1 + z, (fun b => if b = h.1 then sh else h.2.2.1 b), (fun b j => if b = h.1 then 0 else h.2.2.2.1 b j), (fun b j => if b = h.1 then 0 else h.2.2.2.2.1 b j), (fun b j => if b = h.1 then none else h.2.2.2.2.2 b j))
/-- n elements of the row a0 from sp on come into the row a1 from dp on -/
def mq_cpI (h : mq_H) (a0 a1 sp dp n : Nat) : mq_H := (h.1, h.2.1, h.2.2.1, (fun b j => if b = a1 then va_cpy (h.2.2.2.1 a0) (h.2.2.2.1 a1) sp dp n j else h.2.2.2.1 b j), h.2.2.2.2.1, h.2.2.2.2.2)
def mq_cpR (h : mq_H) (a0 a1 sp dp n : Nat) : mq_H := (h.1, h.2.1, h.2.2.1, h.2.2.2.1, h.2.2.2.2.1, (fun b j => if b = a1 then va_cpy (h.2.2.2.2.2 a0) (h.2.2.2.2.2 a1) sp dp n j else h.2.2.2.2.2 b j))
/-- an instruction with what it links: (instruction, next pc, a, b, c, constant, place of its word) -/
abbrev mq_E : Type := Instr × Nat × Nat × Nat × Nat × Int32 × Nat
/-- a method: name, bytes, locals, answer, frames, locals' room, kind (0 static, 1 instance, 2 constructor), class number, parameters, places of its words -/
abbrev mq_M : Type := MethodName × ByteArray × Nat × Option FieldType × Nat × Nat × Nat × Nat × Nat × Nat × Nat × Nat × Nat
abbrev mq_P : Type := (Nat → Option mq_M) × (Nat → Nat → Option mq_E)
abbrev mq_T : Type := (Nat → Option mq_S) × (Nat → Nat → Option Nat)
/-- what a step comes to: next (with what is still to be shown); branch; a reference or null; switch; call; return -/
abbrev mq_X : Type := (Option Bool × Nat × mq_L × List Value × mq_H) ⊕ ((Jvm.ClassFile.Cond × Int32 × Int32 × Nat × Nat × List Value) ⊕ ((Option Bool × Option Nat × Nat × List Value) ⊕ ((Int32 × List (Int32 × Nat) × Nat × List Value) ⊕ ((Option Bool × Nat × List Value × List Value × Nat) ⊕ (Option Bool × Option Value)))))
abbrev mq_gx (g : Option Bool) (pc : Nat) (L : mq_L) (st : List Value) (h : mq_H) : Option mq_X := some (.inl (g, pc, L, st, h))
abbrev mq_nx (pc : Nat) (L : mq_L) (st : List Value) (h : mq_H) : Option mq_X := some (.inl (none, pc, L, st, h))
abbrev mq_bx (o : Jvm.ClassFile.Cond) (x y : Int32) (t e : Nat) (st : List Value) : Option mq_X := some (.inr (.inl (o, x, y, t, e, st)))
abbrev mq_ox (g : Option Bool) (o : Option Nat) (pc : Nat) (st : List Value) : Option mq_X := some (.inr (.inr (.inl (g, o, pc, st))))
abbrev mq_sx (x : Int32) (l : List (Int32 × Nat)) (d : Nat) (st : List Value) : Option mq_X := some (.inr (.inr (.inr (.inl (x, l, d, st)))))
abbrev mq_cx (g : Option Bool) (m : Nat) (as st : List Value) (pc : Nat) : Option mq_X := some (.inr (.inr (.inr (.inr (.inl (g, m, as, st, pc))))))
abbrev mq_rx (g : Option Bool) (v : Option Value) : Option mq_X := some (.inr (.inr (.inr (.inr (.inr (g, v))))))
def mq_gB : Option Bool → Bool
  | none => true
  | some b => b
/-- two things to be shown -/
def mq_an : Option Bool → Bool → Option Bool
  | none, x => some x
  | some g, x => some (g && x)
def mq_inb (i : Int32) (n : Nat) : Bool := decide (0 ≤ i.toInt ∧ i.toInt < (n : Int))
def mq_bit (x : Int32) : Bool := decide (x = 0 ∨ x = 1)
def mq_isO (s : mq_S) (ci : Nat) : Bool := match s with
  | .inl c => Nat.beq c ci
  | .inr _ => false
/-- an array of the type, the index within -/
def mq_gA (s : mq_S) (ty : Nat) (i : Int32) : Bool := match s with
  | .inr (t, n) => Nat.beq t ty && mq_inb i n
  | .inl _ => false
def mq_isA (s : mq_S) : Bool := match s with
  | .inr (t, _) => Nat.ble t 9
  | .inl _ => false
def mq_al (s : mq_S) : Int32 := match s with
  | .inr (_, n) => nI n
  | .inl _ => 0
def mq_gC (s0 s1 : mq_S) (ty : Nat) (sp dp n : Int32) : Bool := match s0, s1 with
  | .inr (t0, n0), .inr (t1, n1) => Nat.beq t0 ty && (Nat.beq t1 ty && decide (0 ≤ sp.toInt ∧ 0 ≤ dp.toInt ∧ 0 ≤ n.toInt ∧ sp.toInt + n.toInt ≤ (n0 : Int) ∧ dp.toInt + n.toInt ≤ (n1 : Int)))
  | _, _ => false
def mq_cat : List Value → Nat
  | [] => 0
  | v :: r => v.category + mq_cat r
def mq_pop : Nat → List Value → List Value → Option (List Value × List Value)
  | 0, st, acc => some (acc, st)
  | n + 1, v :: r, acc => mq_pop n r (v :: acc)
  | _ + 1, [], _ => none
def mq_ld (L : mq_L) (a : Nat) : Option Value := match L[a]? with
  | some (some v) => some v
  | _ => none
def mq_sv (L : mq_L) (i : Nat) (v : Value) : mq_L := match L[i - 1]? with
  | some (some w) => bif Nat.beq w.category 2 then (L.set (i - 1) none).set i (some v) else L.set i (some v)
  | _ => L.set i (some v)
/-- address and shape of a reference -/
def mq_rf (T : mq_T) (h : mq_H) (v : Value) : Option (Nat × mq_S) := match v with
  | .retAddr a => match T.1 a with
    | some s => some (a, s)
    | none => none
  | .ref a => some (a, mq_sh h a)
  | _ => none
def mq_rv (v : Value) : Option (Option Nat) := match v with
  | .retAddr a => some (some a)
  | .ref a => some (some a)
  | .null => some none
  | _ => none
def mq_sw (ps : List (Int × Int)) (pc : Nat) : List (Int32 × Nat) := match ps with
  | [] => []
  | (a, o) :: r => (Int32.ofInt a, ((pc : Int) + o).toNat) :: mq_sw r pc
def mq_tsw (offs : List Int) (lo : Int) (pc : Nat) : List (Int32 × Nat) := match offs with
  | [] => []
  | o :: r => (Int32.ofInt lo, ((pc : Int) + o).toNat) :: mq_tsw r (lo + 1) pc
def mq_gf (T : mq_T) (h : mq_H) (v : Value) (ci k kind nx : Nat) (L : mq_L) (r : List Value) : Option mq_X := match v with
  | .retAddr a => match T.1 a with
    | some (.inl c) => bif Nat.beq c ci then (match kind with
      | 1 => mq_nx nx L (.long (mq_J h a k) :: r) h
      | 2 => match T.2 a k with
        | some b => mq_nx nx L (.retAddr b :: r) h
        | none => mq_ox none (mq_R h a k) nx r
      | _ => mq_nx nx L (.int (mq_I h a k) :: r) h) else none
    | _ => none
  | .ref a => match kind with
    | 1 => mq_gx (some (mq_isO (mq_sh h a) ci)) nx L (.long (mq_J h a k) :: r) h
    | 2 => mq_ox (some (mq_isO (mq_sh h a) ci)) (mq_R h a k) nx r
    | _ => mq_gx (some (mq_isO (mq_sh h a) ci)) nx L (.int (mq_I h a k) :: r) h
  | _ => none
/-- a reference to an object of class ci: its address, and what is still to be shown -/
def mq_ob (T : mq_T) (h : mq_H) (v : Value) (ci : Nat) : Option (Option Bool × Nat) := match v with
  | .retAddr a => match T.1 a with
    | some (.inl c) => bif Nat.beq c ci then some (none, a) else none
    | _ => none
  | .ref a => some (some (mq_isO (mq_sh h a) ci), a)
  | _ => none
def mq_ar (T : mq_T) (h : mq_H) (v : Value) (ty : Nat) (i : Int32) : Option (Bool × Nat) := match v with
  | .retAddr a => match T.1 a with
    | some (.inr (t, n)) => bif Nat.beq t ty then some (mq_inb i n, a) else none
    | _ => none
  | .ref a => some (mq_gA (mq_sh h a) ty i, a)
  | _ => none
/-- of a static reference to an array: its type -/
def mq_ty (T : mq_T) (v : Value) (d : Nat) : Nat := match v with
  | .retAddr a => match T.1 a with
    | some (.inr (t, _)) => t
    | _ => d
  | _ => d
/-- may the reference field k be written: it isn't one that T knows -/
def mq_wg (T : mq_T) (v : Value) (k : Nat) (g : Option Bool) : Option (Option Bool) := match v with
  | .retAddr a => match T.2 a k with
    | some _ => none
    | none => some g
  | .ref a => some (mq_an g (T.1 a).isNone)
  | _ => none
def mq_pf (T : mq_T) (h : mq_H) (x v : Value) (ci k kind nx : Nat) (L : mq_L) (r : List Value) : Option mq_X :=
  match mq_ob T h v ci with
  | none => none
  | some (g, a) => match kind with
    | 1 => match x with
      | .long y => mq_gx g nx L r (mq_setJ h a k y)
      | _ => none
    | 2 => match mq_rv x with
      | some o => match mq_wg T v k g with
        | some g2 => mq_gx g2 nx L r (mq_setR h a k o)
        | none => none
      | none => none
    | 3 => match x with
      | .int y => mq_gx (mq_an g (mq_bit y)) nx L r (mq_setI h a k y)
      | _ => none
    | _ => match x with
      | .int y => mq_gx g nx L r (mq_setI h a k y)
      | _ => none
/-- class of the elements of an array of references -/
def mq_el (ty : Nat) : Nat := bif Nat.beq ty 4 then 6 else 7
/-- the elements are null, or objects of the class -/
def mq_gE (h : mq_H) (a sp n ci : Nat) : Bool := (List.range n).all (fun i => match mq_R h a (sp + i) with
  | none => true
  | some b => mq_isO (mq_sh h b) ci)
def mq_copy (T : mq_T) (h : mq_H) (ty nx : Nat) (L : mq_L) (st : List Value) : Option mq_X := match st with
  | .int n :: .int dp :: dst :: .int sp :: src :: r => match mq_rf T h src with
    | none => none
    | some (a0, s0) => match mq_rf T h dst with
      | none => none
      | some (a1, s1) => bif Nat.ble (mq_cat r) 8 then (bif Nat.ble 4 ty then mq_gx (some (mq_gC s0 s1 ty sp dp n && ((!(Nat.beq a0 a1)) && mq_gE h a0 sp.toNatClampNeg n.toNatClampNeg (mq_el ty)))) nx L r (mq_cpR h a0 a1 sp.toNatClampNeg dp.toNatClampNeg n.toNatClampNeg)
        else mq_gx (some (mq_gC s0 s1 ty sp dp n && (!(Nat.beq a0 a1)))) nx L r (mq_cpI h a0 a1 sp.toNatClampNeg dp.toNatClampNeg n.toNatClampNeg)) else none
  | _ => none
def mq_cr (o : Jvm.ClassFile.Cond) (t nx : Nat) (st : List Value) : Option mq_X := match st with
  | .int y :: .int x :: r => mq_bx o x y t nx r
  | _ => none
def mq_c0 (o : Jvm.ClassFile.Cond) (t nx : Nat) (st : List Value) : Option mq_X := match st with
  | .int x :: r => mq_bx o x 0 t nx r
  | _ => none
def mq_ldI (a nx : Nat) (L : mq_L) (st : List Value) (h : mq_H) : Option mq_X := match mq_ld L a with
  | some (.int x) => mq_nx nx L (.int x :: st) h
  | _ => none
def mq_ldJ (a nx : Nat) (L : mq_L) (st : List Value) (h : mq_H) : Option mq_X := match mq_ld L a with
  | some (.long x) => mq_nx nx L (.long x :: st) h
  | _ => none
def mq_ldA (a nx : Nat) (L : mq_L) (st : List Value) (h : mq_H) : Option mq_X := match mq_ld L a with
  | some (.ref x) => mq_nx nx L (.ref x :: st) h
  | some (.retAddr x) => mq_nx nx L (.retAddr x :: st) h
  | some .null => mq_nx nx L (.null :: st) h
  | _ => none
def mq_stI (a nx : Nat) (L : mq_L) (st : List Value) (h : mq_H) : Option mq_X := match st with
  | .int x :: r => mq_nx nx (mq_sv L a (.int x)) r h
  | _ => none
def mq_stJ (a nx : Nat) (L : mq_L) (st : List Value) (h : mq_H) : Option mq_X := match st with
  | .long x :: r => mq_nx nx ((mq_sv L a (.long x)).set (a + 1) none) r h
  | _ => none
def mq_stA (a nx : Nat) (L : mq_L) (st : List Value) (h : mq_H) : Option mq_X := match st with
  | .ref x :: r => mq_nx nx (mq_sv L a (.ref x)) r h
  | .retAddr x :: r => mq_nx nx (mq_sv L a (.retAddr x)) r h
  | .null :: r => mq_nx nx (mq_sv L a .null) r h
  | _ => none
/-- a call: a the method, b its parameters, c its class; static, constructor, instance -/
def mq_ivS (a b nx : Nat) (st : List Value) : Option mq_X := match mq_pop b st [] with
  | some (as, r) => bif Nat.ble (mq_cat r) 8 then mq_cx none a as r nx else none
  | none => none
def mq_ivI (a b nx : Nat) (st : List Value) : Option mq_X := match mq_pop b st [] with
  | some (as, .ref q :: r) => bif Nat.ble (mq_cat r) 8 then mq_cx none a (.ref q :: as) r nx else none
  | some (as, .retAddr q :: r) => bif Nat.ble (mq_cat r) 8 then mq_cx none a (.retAddr q :: as) r nx else none
  | _ => none
def mq_ivV (T : mq_T) (h : mq_H) (a b c nx : Nat) (st : List Value) : Option mq_X := match mq_pop b st [] with
  | some (as, v :: r) => match mq_ob T h v c with
    | some (g, _) => bif Nat.ble (mq_cat r) 8 then mq_cx g a (v :: as) r nx else none
    | none => none
  | _ => none
/-- Math.max, Math.min -/
def mq_mx (nx : Nat) (L : mq_L) (st : List Value) (h : mq_H) : Option mq_X := match st with
  | .int y :: .int x :: r => bif Nat.ble (mq_cat r) 8 then mq_nx nx L (.int (if x < y then y else x) :: r) h else none
  | _ => none
def mq_mi (nx : Nat) (L : mq_L) (st : List Value) (h : mq_H) : Option mq_X := match st with
  | .int y :: .int x :: r => bif Nat.ble (mq_cat r) 8 then mq_nx nx L (.int (if y < x then y else x) :: r) h else none
  | _ => none
/-- the row UNIT_DAYS -/
def mq_isU (v : Value) : Bool := match v with
  | .retAddr k => Nat.beq k 1
  | _ => false
/-- String.charAt of the constant -/
def mq_chr (nx : Nat) (L : mq_L) (st : List Value) (h : mq_H) : Option mq_X := match st with
  | .int i :: .retAddr k :: r => bif Nat.beq k 2 && Nat.ble (mq_cat r) 8 then mq_gx (some (mq_inb i jk_wn)) nx L (.int (jk_w i.toNatClampNeg) :: r) h else none
  | _ => none
/-- clone of a static row of ints -/
def mq_cln (T : mq_T) (nx : Nat) (L : mq_L) (st : List Value) (h : mq_H) : Option mq_X := match st with
  | .retAddr a :: r => match T.1 a with
    | some (.inr (0, n)) => bif Nat.ble (mq_cat r) 8 then mq_nx nx L (.ref (mq_N h) :: r) (mq_cpI (mq_new h (.inr (0, n)) n) a (mq_N h) 0 0 n) else none
    | _ => none
  | _ => none
/-- a row of ints -/
def mq_s0 (s : mq_S) : Bool := match s with
  | .inr (0, _) => true
  | _ => false
/-- ONE STEP -/
def mq_step (T : mq_T) (ins : Instr) (pc nx a b c : Nat) (k : Int32) (L : mq_L) (st : List Value) (h : mq_H) : Option mq_X := match ins with
  | .iconst _ => mq_nx nx L (.int k :: st) h
  | .bipush _ => mq_nx nx L (.int k :: st) h
  | .sipush _ => mq_nx nx L (.int k :: st) h
  | .ldc _ => bif Nat.beq b 1 then mq_nx nx L (.retAddr 2 :: st) h else mq_nx nx L (.int k :: st) h
  | .ldc_w _ => mq_nx nx L (.int k :: st) h
  | .ldc2_w _ => mq_nx nx L (.long k.toInt64 :: st) h
  | .lconst _ => mq_nx nx L (.long k.toInt64 :: st) h
  | .aconst_null => mq_nx nx L (.null :: st) h
  | .iload_n _ => mq_ldI a nx L st h
  | .iload _ => mq_ldI a nx L st h
  | .lload_n _ => mq_ldJ a nx L st h
  | .lload _ => mq_ldJ a nx L st h
  | .aload_n _ => mq_ldA a nx L st h
  | .aload _ => mq_ldA a nx L st h
  | .istore_n _ => mq_stI a nx L st h
  | .istore _ => mq_stI a nx L st h
  | .lstore_n _ => mq_stJ a nx L st h
  | .lstore _ => mq_stJ a nx L st h
  | .astore_n _ => mq_stA a nx L st h
  | .astore _ => mq_stA a nx L st h
  | .iinc _ _ => match mq_ld L a with
    | some (.int x) => mq_nx nx (mq_sv L a (.int (x + k))) st h
    | _ => none
  | .iadd => match st with
    | .int y :: .int x :: r => mq_nx nx L (.int (x + y) :: r) h
    | _ => none
  | .isub => match st with
    | .int y :: .int x :: r => mq_nx nx L (.int (x - y) :: r) h
    | _ => none
  | .imul => match st with
    | .int y :: .int x :: r => mq_nx nx L (.int (x * y) :: r) h
    | _ => none
  | .iand => match st with
    | .int y :: .int x :: r => mq_nx nx L (.int (x &&& y) :: r) h
    | _ => none
  | .ior => match st with
    | .int y :: .int x :: r => mq_nx nx L (.int (x ||| y) :: r) h
    | _ => none
  | .ixor => match st with
    | .int y :: .int x :: r => mq_nx nx L (.int (x ^^^ y) :: r) h
    | _ => none
  | .ishl => match st with
    | .int y :: .int x :: r => mq_nx nx L (.int (x <<< (y &&& 31)) :: r) h
    | _ => none
  | .ishr => match st with
    | .int y :: .int x :: r => mq_nx nx L (.int (x >>> (y &&& 31)) :: r) h
    | _ => none
  | .iushr => match st with
    | .int y :: .int x :: r => mq_nx nx L (.int ((x.toUInt32 >>> (y.toUInt32 &&& Int32.toUInt32 31)).toInt32) :: r) h
    | _ => none
  | .idiv => match st with
    | .int y :: .int x :: r => mq_gx (some (decide (¬ y = 0))) nx L (.int (x / y) :: r) h
    | _ => none
  | .irem => match st with
    | .int y :: .int x :: r => mq_gx (some (decide (¬ y = 0))) nx L (.int (x - x / y * y) :: r) h
    | _ => none
  | .ineg => match st with
    | .int x :: r => mq_nx nx L (.int (-x) :: r) h
    | _ => none
  | .i2b => match st with
    | .int x :: r => mq_nx nx L (.int x.toInt8.toInt32 :: r) h
    | _ => none
  | .i2c => match st with
    | .int x :: r => mq_nx nx L (.int (x.toUInt32 % 65536).toInt32 :: r) h
    | _ => none
  | .l2i => match st with
    | .long x :: r => mq_nx nx L (.int x.toInt32 :: r) h
    | _ => none
  | .land => match st with
    | .long y :: .long x :: r => mq_nx nx L (.long (x &&& y) :: r) h
    | _ => none
  | .lor => match st with
    | .long y :: .long x :: r => mq_nx nx L (.long (x ||| y) :: r) h
    | _ => none
  | .lushr => match st with
    | .int y :: .long x :: r => mq_nx nx L (.long (x.toUInt64 >>> (y.toInt64.toUInt64 &&& Int64.toUInt64 63)).toInt64 :: r) h
    | _ => none
  | .lshl => match st with
    | .int y :: .long x :: r => mq_nx nx L (.long (x <<< (y.toInt64 &&& 63)) :: r) h
    | _ => none
  | .lcmp => match st with
    | .long y :: .long x :: r => mq_nx nx L (.int (lg_cmp x y) :: r) h
    | _ => none
  | .dup => match st with
    | v :: r => bif Nat.beq v.category 1 then mq_nx nx L (v :: v :: r) h else none
    | _ => none
  | .dup2 => match st with
    | v :: w :: r => bif Nat.beq v.category 1 then (bif Nat.beq w.category 1 then mq_nx nx L (v :: w :: v :: w :: r) h else none) else none
    | _ => none
  | .pop => match st with
    | v :: r => bif Nat.beq v.category 1 then mq_nx nx L r h else none
    | _ => none
  | .goto _ => mq_nx a L st h
  | .ifCond o _ => mq_c0 o a nx st
  | .if_icmp o _ => mq_cr o a nx st
  | .ifnonnull _ => match st with
    | .ref _ :: r => mq_nx a L r h
    | .retAddr _ :: r => mq_nx a L r h
    | .null :: r => mq_nx nx L r h
    | _ => none
  | .tableswitch _ lo _ offs => match st with
    | .int x :: r => mq_sx x (mq_tsw offs.toList lo pc) a r
    | _ => none
  | .lookupswitch _ ps => match st with
    | .int x :: r => mq_sx x (mq_sw ps.toList pc) a r
    | _ => none
  | .getfield _ => match st with
    | v :: r => mq_gf T h v a b c nx L r
    | _ => none
  | .putfield _ => match st with
    | x :: v :: r => mq_pf T h x v a b c nx L r
    | _ => none
  | .iaload => match st with
    | .int i :: v :: r => bif mq_isU v then mq_gx (some (mq_inb i 3)) nx L (.int (jk_ud i.toNatClampNeg) :: r) h else match mq_ar T h v (mq_ty T v 0) i with
      | some (g, q) => bif (Nat.beq (mq_ty T v 0) 0 || Nat.beq (mq_ty T v 0) 9) then mq_gx (some g) nx L (.int (mq_I h q i.toNatClampNeg) :: r) h else none
      | none => none
    | _ => none
  | .baload => match st with
    | .int i :: v :: r => match mq_ar T h v (mq_ty T v 1) i with
      | some (g, q) => bif (Nat.beq (mq_ty T v 1) 1 || Nat.beq (mq_ty T v 1) 2) then mq_gx (some g) nx L (.int (mq_I h q i.toNatClampNeg) :: r) h else none
      | none => none
    | _ => none
  | .laload => match st with
    | .int i :: v :: r => match mq_ar T h v 3 i with
      | some (g, q) => mq_gx (some g) nx L (.long (mq_J h q i.toNatClampNeg) :: r) h
      | none => none
    | _ => none
  | .aaload => match st with
    | .int i :: v :: r => match mq_ar T h v a i with
      | some (g, q) => mq_ox (some g) (mq_R h q i.toNatClampNeg) nx r
      | none => none
    | _ => none
  | .iastore => match st with
    | .int x :: .int i :: v :: r => match mq_ar T h v 0 i with
      | some (g, q) => mq_gx (some g) nx L r (mq_setI h q i.toNatClampNeg x)
      | none => none
    | _ => none
  | .bastore => match st with
    | .int x :: .int i :: v :: r => match mq_ar T h v (mq_ty T v 1) i with
      | some (g, q) => bif Nat.beq (mq_ty T v 1) 1 then mq_gx (some g) nx L r (mq_setI h q i.toNatClampNeg x.toInt8.toInt32) else (bif Nat.beq (mq_ty T v 1) 2 then mq_gx (some (g && mq_bit x)) nx L r (mq_setI h q i.toNatClampNeg x) else none)
      | none => none
    | _ => none
  | .lastore => match st with
    | .long x :: .int i :: v :: r => match mq_ar T h v 3 i with
      | some (g, q) => mq_gx (some g) nx L r (mq_setJ h q i.toNatClampNeg x)
      | none => none
    | _ => none
  | .aastore => match st with
    | x :: .int i :: v :: r => match mq_ar T h v a i with
      | some (g, q) => match mq_ob T h x (mq_el a) with
        | some (g2, y) => mq_gx (mq_an g2 g) nx L r (mq_setR h q i.toNatClampNeg (some y))
        | none => none
      | none => none
    | _ => none
  | .arraylength => match st with
    | v :: r => match mq_rf T h v with
      | some (_, s) => mq_gx (some (mq_isA s)) nx L (.int (mq_al s) :: r) h
      | none => none
    | _ => none
  | .newarray _ => match st with
    | .int n :: r => mq_gx (some (mq_inb n 100000)) nx L (.ref (mq_N h) :: r) (mq_new h (.inr (a, n.toNatClampNeg)) n.toNatClampNeg)
    | _ => none
  | .anewarray _ => match st with
    | .int n :: r => mq_gx (some (mq_inb n 100000)) nx L (.ref (mq_N h) :: r) (mq_new h (.inr (a, n.toNatClampNeg)) n.toNatClampNeg)
    | _ => none
  | .new _ => mq_nx nx L (.ref (mq_N h) :: st) (mq_new h (.inl a) b)
  | .getstatic _ => mq_nx nx L (.retAddr 1 :: st) h
  | .checkcast _ => match st with
    | .ref x :: r => mq_gx (some (mq_s0 (mq_sh h x))) nx L (.ref x :: r) h
    | _ => none
  | .invokestatic _ => bif Nat.beq a 1000 then mq_copy T h b nx L st else (bif Nat.beq a 1002 then mq_mx nx L st h else (bif Nat.beq a 1003 then mq_mi nx L st h else mq_ivS a b nx st))
  | .invokespecial _ => bif Nat.beq a 1001 then (match st with
    | .ref _ :: r => bif Nat.ble (mq_cat r) 8 then mq_nx nx L r h else none
    | _ => none) else mq_ivI a b nx st
  | .invokevirtual _ => bif Nat.ble 1004 a then (bif Nat.beq a 1004 then mq_chr nx L st h else mq_cln T nx L st h) else mq_ivV T h a b c nx st
  | .ireturn => match st with
    | [.int x] => (bif Nat.beq c 1 then mq_rx (some (mq_bit x)) (some (.int x)) else mq_rx none (some (.int x)))
    | _ => none
  | .lreturn => match st with
    | [.long x] => mq_rx none (some (.long x))
    | _ => none
  | .areturn => match st with
    | [.ref x] => mq_rx none (some (.ref x))
    | [.retAddr x] => mq_rx none (some (.retAddr x))
    | [.null] => mq_rx none (some .null)
    | _ => none
  | .return_ => match st with
    | [] => mq_rx none none
    | _ => none
  | _ => none
/-- the locals of a call -/
def mq_en : List Value → Nat → mq_L
  | [], n => List.replicate n none
  | v :: r, n => bif Nat.beq v.category 2 then some v :: none :: mq_en r (n - 2) else some v :: mq_en r (n - 1)
def mq_cmp (o : Jvm.ClassFile.Cond) (x y : Int32) : Bool := match o with
  | .eq => decide (x = y)
  | .ne => decide (¬ x = y)
  | .lt => decide (x < y)
  | .ge => decide (y ≤ x)
  | .gt => decide (y < x)
  | .le => decide (x ≤ y)
def mq_pv (o : Option Nat) : Value := match o with
  | some b => .ref b
  | none => .null
def mq_find (x : Int32) : List (Int32 × Nat) → Nat → Nat
  | [], d => d
  | (a, t) :: r, d => bif decide (x = a) then t else mq_find x r d
def mq_args (P : mq_P) (m : Nat) (as : List Value) : Option mq_L := match P.1 m with
  | some (_, _, n, _) => bif Nat.ble (mq_cat as) n then some (mq_en as n) else none
  | none => none
def mq_tl (v : Option Value) (r : List Value) : List Value := match v with
  | some x => x :: r
  | none => r
/-- what a step's end comes to, the rest by 'rn' -/
def mq_af (P : mq_P) (rn : Nat → Nat → mq_L → List Value → mq_H → Option (Option Value × mq_H)) (m : Nat) (L : mq_L) (h : mq_H) : Option mq_X → Option (Option Value × mq_H)
  | none => none
  | some (.inl (g, pc', L', st', h')) => bif mq_gB g then rn m pc' L' st' h' else none
  | some (.inr (.inl (o, x, y, t, e, st'))) => rn m (bif mq_cmp o x y then t else e) L st' h
  | some (.inr (.inr (.inl (g, o, pc', st')))) => bif mq_gB g then rn m pc' L (mq_pv o :: st') h else none
  | some (.inr (.inr (.inr (.inl (x, l, d, st'))))) => rn m (mq_find x l d) L st' h
  | some (.inr (.inr (.inr (.inr (.inl (g, m', as, st', pc')))))) => bif mq_gB g then (match mq_args P m' as with
    | none => none
    | some L' => match rn m' 0 L' [] h with
      | some (v, h') => rn m pc' L (mq_tl v st') h'
      | none => none) else none
  | some (.inr (.inr (.inr (.inr (.inr (g, v)))))) => bif mq_gB g then some (v, h) else none
/-- A RUN, from a place of a method to its return -/
def mq_body (P : mq_P) (T : mq_T) (rn : Nat → Nat → mq_L → List Value → mq_H → Option (Option Value × mq_H)) (m pc : Nat) (L : mq_L) (st : List Value) (h : mq_H) : Option (Option Value × mq_H) := match P.2 m pc with
  | none => none
  | some (ins, nx, a, b, c, k, _) => mq_af P rn m L h (mq_step T ins pc nx a b c k L st h)
def mq_run (P : mq_P) (T : mq_T) : Nat → Nat → Nat → mq_L → List Value → mq_H → Option (Option Value × mq_H)
  | 0 => fun _ _ _ _ _ => none
  | f + 1 => mq_body P T (mq_run P T f)
end
section
/-! REASONING ABOUT RUNS: 'mq_At' (from a place of a method the run returns, with Q), 'mq_Call', and 'mq_wp', which steps on by computing -/
def mq_At (P : mq_P) (T : mq_T) (m pc : Nat) (L : mq_L) (st : List Value) (h : mq_H) (Q : Option Value → mq_H → Prop) : Prop := ∃ (f : Nat) (v : Option Value) (h' : mq_H), mq_run P T f m pc L st h = some (v, h') ∧ Q v h'
def mq_Call (P : mq_P) (T : mq_T) (m : Nat) (as : List Value) (h : mq_H) (Q : Option Value → mq_H → Prop) : Prop := ∃ L, mq_args P m as = some L ∧ mq_At P T m 0 L [] h Q
theorem mq_mono1 {P : mq_P} {T : mq_T} {r1 r2 : Nat → Nat → mq_L → List Value → mq_H → Option (Option Value × mq_H)} (hr : ∀ m pc L st h x, r1 m pc L st h = some x → r2 m pc L st h = some x) {m pc : Nat} {L : mq_L} {st : List Value} {h : mq_H} {x : Option Value × mq_H} (hx : mq_body P T r1 m pc L st h = some x) : mq_body P T r2 m pc L st h = some x := by
  unfold mq_body at hx ⊢
  cases hP : P.2 m pc with
  | none => rw [hP] at hx; cases hx
  | some e =>
    obtain ⟨ins, nx, a, b, c, k, j⟩ := e
    rw [hP] at hx
    dsimp only at hx ⊢
    cases hs : mq_step T ins pc nx a b c k L st h with
    | none => rw [hs] at hx; cases hx
    | some X =>
      rw [hs] at hx
      unfold mq_af at hx ⊢
      rcases X with ⟨g, pc', L', st', h'⟩ | ⟨o, x', y, t, e, st'⟩ | ⟨g, o, pc', st'⟩ | ⟨x', l, d, st'⟩ | ⟨g, m', as, st', pc'⟩ | ⟨g, v⟩
      · dsimp only at hx ⊢
        cases hg : mq_gB g with
        | false => rw [hg] at hx; cases hx
        | true => rw [hg] at hx; exact hr _ _ _ _ _ _ hx
      · exact hr _ _ _ _ _ _ hx
      · dsimp only at hx ⊢
        cases hg : mq_gB g with
        | false => rw [hg] at hx; cases hx
        | true => rw [hg] at hx; exact hr _ _ _ _ _ _ hx
      · exact hr _ _ _ _ _ _ hx
      · dsimp only at hx ⊢
        cases hg : mq_gB g with
        | false => rw [hg] at hx; cases hx
        | true =>
          rw [hg] at hx
          dsimp only [cond_true] at hx ⊢
          cases ha : mq_args P m' as with
          | none => rw [ha] at hx; cases hx
          | some L' =>
            rw [ha] at hx
            dsimp only at hx ⊢
            cases hc : r1 m' 0 L' [] h with
            | none => rw [hc] at hx; cases hx
            | some z =>
              obtain ⟨v, h'⟩ := z
              rw [hc] at hx
              rw [hr _ _ _ _ _ _ hc]
              exact hr _ _ _ _ _ _ hx
      · exact hx
theorem mq_mono {P : mq_P} {T : mq_T} : ∀ (f : Nat) (m pc : Nat) (L : mq_L) (st : List Value) (h : mq_H) (x : Option Value × mq_H), mq_run P T f m pc L st h = some x → mq_run P T (f + 1) m pc L st h = some x
  | 0, _, _, _, _, _, _, h => by cases h
  | f + 1, _, _, _, _, _, _, h => mq_mono1 (mq_mono f) h
theorem mq_monoL {P : mq_P} {T : mq_T} {f g : Nat} (hfg : f ≤ g) {m pc : Nat} {L : mq_L} {st : List Value} {h : mq_H} {x : Option Value × mq_H} (hx : mq_run P T f m pc L st h = some x) : mq_run P T g m pc L st h = some x := by
  induction hfg with
  | refl => exact hx
  | step _ ih => exact mq_mono _ _ _ _ _ _ _ ih
theorem mq_At.mono {P : mq_P} {T : mq_T} {m pc : Nat} {L : mq_L} {st : List Value} {h : mq_H} {Q Q' : Option Value → mq_H → Prop} (hA : mq_At P T m pc L st h Q) (hq : ∀ v h', Q v h' → Q' v h') : mq_At P T m pc L st h Q' := by
  obtain ⟨f, v, h', h1, h2⟩ := hA
  exact ⟨f, v, h', h1, hq _ _ h2⟩
theorem mq_Call.mono {P : mq_P} {T : mq_T} {m : Nat} {as : List Value} {h : mq_H} {Q Q' : Option Value → mq_H → Prop} (hA : mq_Call P T m as h Q) (hq : ∀ v h', Q v h' → Q' v h') : mq_Call P T m as h Q' := by
  obtain ⟨L, h1, h2⟩ := hA
  exact ⟨L, h1, mq_At.mono h2 hq⟩
def mq_inC : List Nat → Nat → Bool
  | [], _ => false
  | c :: r, p => bif Nat.beq c p then true else mq_inC r p
def mq_fL : mq_L → (mq_L → Prop) → Prop
  | [], k => k []
  | x :: r, k => mq_fL r (fun s => k (x :: s))
def mq_fS : List Value → (List Value → Prop) → Prop
  | [], k => k []
  | x :: r, k => mq_fS r (fun s => k (x :: s))
theorem mq_fL_eq : ∀ (l : mq_L) (k : mq_L → Prop), mq_fL l k → k l
  | [], _, h => h
  | _ :: r, _, h => mq_fL_eq r _ h
theorem mq_fS_eq : ∀ (l : List Value) (k : List Value → Prop), mq_fS l k → k l
  | [], _, h => h
  | _ :: r, _, h => mq_fS_eq r _ h
def mq_gP : Option Bool → Prop → Prop
  | none, A => A
  | some g, A => g = true ∧ A
def mq_bP (o : Jvm.ClassFile.Cond) (x y : Int32) (A B : Prop) : Prop := match o with
  | .eq => (x = y → A) ∧ (¬ x = y → B)
  | .ne => (¬ x = y → A) ∧ (x = y → B)
  | .lt => (x < y → A) ∧ (¬ x < y → B)
  | .ge => (y ≤ x → A) ∧ (¬ y ≤ x → B)
  | .gt => (y < x → A) ∧ (¬ y < x → B)
  | .le => (x ≤ y → A) ∧ (¬ x ≤ y → B)
def mq_sP (x : Int32) (k : Nat → Prop) (d : Nat) : List (Int32 × Nat) → Prop
  | [] => k d
  | (a, t) :: r => (x = a → k t) ∧ (¬ x = a → mq_sP x k d r)
def mq_kP (cs : List Nat) (pc : Nat) (A B : Prop) : Prop := match mq_inC cs pc with
  | true => A
  | false => B
theorem mq_gP_ok {g : Option Bool} {A : Prop} (h : mq_gP g A) : mq_gB g = true ∧ A := by
  cases g with
  | none => exact ⟨rfl, h⟩
  | some b => exact h
theorem mq_bP_ok {o : Jvm.ClassFile.Cond} {x y : Int32} {A B : Prop} (h : mq_bP o x y A B) : (mq_cmp o x y = true ∧ A) ∨ (mq_cmp o x y = false ∧ B) := by
  cases o <;> simp only [mq_bP] at h <;> simp only [mq_cmp, decide_eq_true_eq, decide_eq_false_iff_not]
  · by_cases e : x = y
    · exact Or.inl ⟨e, h.1 e⟩
    · exact Or.inr ⟨e, h.2 e⟩
  · by_cases e : x = y
    · exact Or.inr ⟨fun q => q e, h.2 e⟩
    · exact Or.inl ⟨e, h.1 e⟩
  · by_cases e : x < y
    · exact Or.inl ⟨e, h.1 e⟩
    · exact Or.inr ⟨e, h.2 e⟩
  · by_cases e : y ≤ x
    · exact Or.inl ⟨e, h.1 e⟩
    · exact Or.inr ⟨e, h.2 e⟩
  · by_cases e : y < x
    · exact Or.inl ⟨e, h.1 e⟩
    · exact Or.inr ⟨e, h.2 e⟩
  · by_cases e : x ≤ y
    · exact Or.inl ⟨e, h.1 e⟩
    · exact Or.inr ⟨e, h.2 e⟩
theorem mq_sP_ok {x : Int32} {k : Nat → Prop} {d : Nat} : ∀ {l : List (Int32 × Nat)}, mq_sP x k d l → k (mq_find x l d)
  | [], h => h
  | (a, t) :: r, h => by
    by_cases e : x = a
    · have : mq_find x ((a, t) :: r) d = t := by simp [mq_find, e]
      rw [this]; exact h.1 e
    · have : mq_find x ((a, t) :: r) d = mq_find x r d := by simp [mq_find, e]
      rw [this]; exact mq_sP_ok (h.2 e)
/-- stepping on: stops at the places cs, at calls, branches, and what is to be shown -/
def mq_wp (P : mq_P) (T : mq_T) (cs : List Nat) : Nat → Nat → Nat → mq_L → List Value → mq_H → (Option Value → mq_H → Prop) → Prop
  | 0, m, pc, L, st, h, Q => mq_At P T m pc L st h Q
  | f + 1, m, pc, L, st, h, Q => match P.2 m pc with
    | none => False
    | some (ins, nx, a, b, c, k, _) => match mq_step T ins pc nx a b c k L st h with
      | none => False
      | some (.inl (g, pc', L', st', h')) => mq_gP g (mq_fL L' (fun L2 => mq_fS st' (fun st2 => mq_kP cs pc' (mq_At P T m pc' L2 st2 h' Q) (mq_wp P T cs f m pc' L2 st2 h' Q))))
      | some (.inr (.inl (o, x, y, t, e, st'))) => mq_bP o x y (mq_kP cs t (mq_At P T m t L st' h Q) (mq_wp P T cs f m t L st' h Q)) (mq_kP cs e (mq_At P T m e L st' h Q) (mq_wp P T cs f m e L st' h Q))
      | some (.inr (.inr (.inl (g, o, pc', st')))) => mq_gP g ((o = none → mq_wp P T cs f m pc' L (.null :: st') h Q) ∧ (∀ q : Nat, o = some q → mq_wp P T cs f m pc' L (.ref q :: st') h Q))
      | some (.inr (.inr (.inr (.inl (x, l, d, st'))))) => mq_sP x (fun t => mq_wp P T cs f m t L st' h Q) d l
      | some (.inr (.inr (.inr (.inr (.inl (g, m', as, st', pc')))))) => mq_gP g (mq_Call P T m' as h (fun v h' => mq_fS (mq_tl v st') (fun st2 => mq_kP cs pc' (mq_At P T m pc' L st2 h' Q) (mq_wp P T cs f m pc' L st2 h' Q))))
      | some (.inr (.inr (.inr (.inr (.inr (g, v)))))) => mq_gP g (Q v h)
theorem mq_kP_ok {cs : List Nat} {pc : Nat} {A B : Prop} (h : mq_kP cs pc A B) (hb : B → A) : A := by
  unfold mq_kP at h
  split at h
  · exact h
  · exact hb h
theorem mq_At.step {P : mq_P} {T : mq_T} {m pc : Nat} {L : mq_L} {st : List Value} {h : mq_H} {Q : Option Value → mq_H → Prop} {m' pc' : Nat} {L' : mq_L} {st' : List Value} {h' : mq_H} (hA : mq_At P T m' pc' L' st' h' Q) (hs : ∀ f x, mq_run P T f m' pc' L' st' h' = some x → mq_body P T (mq_run P T f) m pc L st h = some x) : mq_At P T m pc L st h Q := by
  obtain ⟨f, v, h2, h1, hq⟩ := hA
  exact ⟨f + 1, v, h2, hs f _ h1, hq⟩
theorem mq_wp_At {P : mq_P} {T : mq_T} {cs : List Nat} : ∀ (f m pc : Nat) (L : mq_L) (st : List Value) (h : mq_H) (Q : Option Value → mq_H → Prop), mq_wp P T cs f m pc L st h Q → mq_At P T m pc L st h Q
  | 0, _, _, _, _, _, _, hw => hw
  | f + 1, m, pc, L, st, h, Q, hw => by
    unfold mq_wp at hw
    cases hP : P.2 m pc with
    | none => rw [hP] at hw; exact hw.elim
    | some e =>
      obtain ⟨ins, nx, a, b, c, k, j⟩ := e
      rw [hP] at hw
      dsimp only at hw
      cases hs : mq_step T ins pc nx a b c k L st h with
      | none => rw [hs] at hw; exact hw.elim
      | some X =>
        rw [hs] at hw
        have hbody : ∀ rn, mq_body P T rn m pc L st h = mq_af P rn m L h (some X) := by
          intro rn
          unfold mq_body
          rw [hP]
          dsimp only
          rw [hs]
        rcases X with ⟨g, pc', L', st', h'⟩ | ⟨o, x', y, t, e, st'⟩ | ⟨g, o, pc', st'⟩ | ⟨x', l, d, st'⟩ | ⟨g, m', as, st', pc'⟩ | ⟨g, v⟩
        · obtain ⟨hg, hw⟩ := mq_gP_ok hw
          have hw := mq_fS_eq _ _ (mq_fL_eq _ _ hw)
          have hA := mq_kP_ok hw (mq_wp_At f _ _ _ _ _ _)
          refine hA.step (fun f x hx => ?_)
          rw [hbody]
          dsimp only [mq_af]
          rw [hg]
          exact hx
        · rcases mq_bP_ok hw with ⟨hc, hw⟩ | ⟨hc, hw⟩
          · have hA := mq_kP_ok hw (mq_wp_At f _ _ _ _ _ _)
            refine hA.step (fun f x hx => ?_)
            rw [hbody]
            dsimp only [mq_af]
            rw [hc]
            exact hx
          · have hA := mq_kP_ok hw (mq_wp_At f _ _ _ _ _ _)
            refine hA.step (fun f x hx => ?_)
            rw [hbody]
            dsimp only [mq_af]
            rw [hc]
            exact hx
        · obtain ⟨hg, h1, h2⟩ := mq_gP_ok hw
          cases o with
          | none =>
            refine (mq_wp_At f _ _ _ _ _ _ (h1 rfl)).step (fun f x hx => ?_)
            rw [hbody]
            dsimp only [mq_af]
            rw [hg]
            exact hx
          | some q =>
            refine (mq_wp_At f _ _ _ _ _ _ (h2 q rfl)).step (fun f x hx => ?_)
            rw [hbody]
            dsimp only [mq_af]
            rw [hg]
            exact hx
        · refine (mq_wp_At f _ _ _ _ _ _ (mq_sP_ok hw)).step (fun f x hx => ?_)
          rw [hbody]
          exact hx
        · obtain ⟨hg, L', hL', f1, v, h', hr1, hk⟩ := mq_gP_ok hw
          have hw := mq_fS_eq _ _ hk
          obtain ⟨f2, v2, h2, hr2, hq⟩ := mq_kP_ok hw (mq_wp_At f _ _ _ _ _ _)
          refine ⟨(f1 + f2) + 1, v2, h2, ?_, hq⟩
          show mq_body P T (mq_run P T (f1 + f2)) m pc L st h = _
          rw [hbody]
          dsimp only [mq_af]
          rw [hg]
          dsimp only [cond_true]
          rw [hL']
          dsimp only
          rw [mq_monoL (Nat.le_add_right f1 f2) hr1]
          exact mq_monoL (Nat.le_add_left f2 f1) hr2
        · obtain ⟨hg, hq⟩ := mq_gP_ok hw
          refine ⟨1, v, h, ?_, hq⟩
          show mq_body P T (mq_run P T 0) m pc L st h = _
          rw [hbody]
          dsimp only [mq_af]
          rw [hg]
          rfl
/-- go on by computing -/
theorem mq_go {P : mq_P} {T : mq_T} {m pc : Nat} {L : mq_L} {st : List Value} {h : mq_H} {Q : Option Value → mq_H → Prop} (f : Nat) (cs : List Nat) (hw : mq_wp P T cs f m pc L st h Q) : mq_At P T m pc L st h Q := mq_wp_At f m pc L st h Q hw
/-- the start of a call -/
def mq_eP (P : mq_P) (m : Nat) (as : List Value) (k : mq_L → Prop) : Prop := match mq_args P m as with
  | some L => mq_fL L k
  | none => False
theorem mq_enter {P : mq_P} {T : mq_T} {m : Nat} {as : List Value} {h : mq_H} {Q : Option Value → mq_H → Prop} (f : Nat) (cs : List Nat) (hw : mq_eP P m as (fun L => mq_wp P T cs f m 0 L [] h Q)) : mq_Call P T m as h Q := by
  unfold mq_eP at hw
  split at hw
  · rename_i L hL
    exact ⟨L, hL, mq_wp_At f m 0 _ [] h Q (mq_fL_eq _ _ hw)⟩
  · exact hw.elim
end
section
/-! THE RELATION between the abstract heap and the machine's -/
/-- ghosts: base (the heap's size at the start), the outside cells' addresses, class numbers and slots, array classes -/
abbrev mq_GH : Type := Nat × (Nat → Nat) × va_G × (Nat → ClassId)
def mq_ad (g : mq_GH) (k : Nat) : Nat := if k < 4 then g.2.1 k else g.1 + (k - 4)
def mq_cv (g : mq_GH) (v : Value) : Value := match v with
  | .ref k => .ref (mq_ad g k)
  | .retAddr k => .ref (mq_ad g k)
  | v => v
theorem mq_cv_cat (g : mq_GH) (v : Value) : (mq_cv g v).category = v.category := by cases v <;> rfl
def mq_knd (t : FieldType) : Nat := match t with
  | .int => 0
  | .long => 1
  | .boolean => 3
  | .object _ => 2
  | .array _ => 2
  | _ => 9
def mq_fv (g : mq_GH) (h : mq_H) (a ci j : Nat) : Value := match mq_knd (mq_fty ci j) with
  | 1 => .long (mq_J h a j)
  | 2 => va_rf ((mq_R h a j).map (mq_ad g))
  | _ => .int (mq_I h a j)
def mq_adt (g : mq_GH) (h : mq_H) (k ty : Nat) : (Nat → Int32) ⊕ (Nat → Int64) ⊕ (Nat → UInt32) ⊕ (Nat → UInt64) ⊕ (Nat → Option Nat) :=
  if ty = 3 then .inr (.inl (mq_J h k)) else if 4 ≤ ty then .inr (.inr (.inr (.inr (fun j => (mq_R h k j).map (mq_ad g))))) else .inl (mq_I h k)
def mq_cell (g : mq_GH) (h : mq_H) (k : Nat) (H : Heap) : Prop := match mq_sh h k with
  | .inl ci => ∃ r : vw_C, mq_cl[ci]? = some r ∧ t_OB (mq_ad g k) (g.2.2.1.1 ci) r.2.2 (g.2.2.1.2 ci) H (fun j => mq_fv g h k ci j)
  | .inr (ty, n) => ty < 6 ∧ H[mq_ad g k]? = some (vp_cell (g.2.2.2 ty) (n, mq_adt g h k ty))
def mq_stc (T : mq_T) (h : mq_H) : Prop := (∀ (k : Nat) (s : mq_S), T.1 k = some s → mq_sh h k = s ∧ k < mq_N h) ∧ ∀ (k j b : Nat), T.2 k j = some b → mq_R h k j = some b ∧ ∃ ci : Nat, T.1 k = some (.inl ci)
def mq_rel (g : mq_GH) (T : mq_T) (h : mq_H) (H : Heap) : Prop := 4 ≤ mq_N h ∧ H.size = g.1 + (mq_N h - 4) ∧ (∀ k, k < 4 → g.2.1 k < g.1) ∧ (∀ k, 4 ≤ k → k < mq_N h → mq_cell g h k H) ∧ (∀ k, mq_N h ≤ k → mq_sh h k = .inr (99, 0)) ∧ (∀ k, k < 4 → ∃ t n, mq_sh h k = .inr (t, n) ∧ 9 ≤ t) ∧ (∀ k n j, mq_sh h k = .inr (2, n) → mq_I h k j = 0 ∨ mq_I h k j = 1) ∧ mq_stc T h
/-- the outside cells that are rows of ints -/
def mq_ext (g : mq_GH) (h : mq_H) (U : State) (H : Heap) : Prop := ∀ k n, k < 4 → mq_sh h k = .inr (9, n) → va_X (g.2.1 k) n (mq_I h k) U H
def mq_tys (g : mq_GH) : List (ClassId × FieldType) := [(g.2.2.2 0, .int), (g.2.2.2 1, .byte), (g.2.2.2 2, .boolean), (g.2.2.2 3, .long), (g.2.2.2 4, .object "RanOut$Law"), (g.2.2.2 5, .object "RanOut$Line")]
def mq_lv (g : mq_GH) (nL : Nat) (ls : Array Slot) (L : mq_L) : Prop := ls.size = nL ∧ lv_wf ls ∧ ∀ (i : Nat) (v : Value), L[i]? = some (some v) → ls[i]? = some (.val (mq_cv g v))
/-! locals -/
def mq_pr (g : mq_GH) (L : mq_L) : List (Nat × Value) := (List.range L.length).filterMap (fun i => match L[i]? with
  | some (some v) => some (i, mq_cv g v)
  | _ => none)
theorem mq_pr_mem {g : mq_GH} {L : mq_L} {i : Nat} {v : Value} (h : L[i]? = some (some v)) : (i, mq_cv g v) ∈ mq_pr g L := by
  refine List.mem_filterMap.mpr ⟨i, List.mem_range.mpr (List.getElem?_eq_some_iff.mp h).1, ?_⟩
  rw [h]
theorem mq_lv.has {g : mq_GH} {nL : Nat} {ls : Array Slot} {L : mq_L} (h : mq_lv g nL ls L) : lv_has ls nL (mq_pr g L) := by
  refine ⟨h.1, h.2.1, fun q hq => ?_⟩
  obtain ⟨i, -, hi⟩ := List.mem_filterMap.mp hq
  revert hi
  split
  · rename_i v hv
    intro hi
    cases hi
    exact h.2.2 i v hv
  · intro hi
    cases hi
theorem mq_sv_get {L : mq_L} {i t : Nat} {v w : Value} (h : (mq_sv L i v)[t]? = some (some w)) : (t = i ∧ w = v) ∨ (t ≠ i ∧ L[t]? = some (some w) ∧ ¬ (t + 1 = i ∧ w.category = 2)) := by
  by_cases ht : t = i
  · subst ht
    refine Or.inl ⟨rfl, ?_⟩
    have key : ∀ L' : mq_L, (L'.set t (some v))[t]? = some (some w) → w = v := by
      intro L' h
      rw [List.getElem?_set] at h
      simp only [if_true] at h
      split at h
      · cases h; rfl
      · cases h
    unfold mq_sv at h
    split at h
    · rename_i w' _
      cases hb : Nat.beq w'.category 2 with
      | true => rw [hb] at h; exact key _ h
      | false => rw [hb] at h; exact key _ h
    · exact key _ h
  · refine Or.inr ⟨ht, ?_⟩
    have key : ∀ L' : mq_L, (L'.set i (some v))[t]? = L'[t]? := fun L' => by rw [List.getElem?_set, if_neg (fun e => ht e.symm)]
    unfold mq_sv at h
    split at h
    · rename_i w' hw'
      cases hb : Nat.beq w'.category 2 with
      | true =>
        rw [hb] at h
        simp only [cond_true] at h
        rw [key, List.getElem?_set] at h
        split at h
        · split at h
          · cases h
          · cases h
        · rename_i hne
          refine ⟨h, fun q => hne ?_⟩
          omega
      | false =>
        rw [hb] at h
        simp only [cond_false] at h
        rw [key] at h
        refine ⟨h, fun q => ?_⟩
        have e : i - 1 = t := by omega
        rw [e, h] at hw'
        cases hw'
        rw [q.2] at hb
        cases hb
    · rename_i hn
      rw [key] at h
      refine ⟨h, fun q => ?_⟩
      have e : i - 1 = t := by omega
      rw [e] at hn
      exact hn w h
theorem mq_lv.st1 {g : mq_GH} {nL : Nat} {ls' : Array Slot} {L : mq_L} {i : Nat} {v : Value} (h : lv_has ls' nL ((i, mq_cv g v) :: (mq_pr g L).filter (fun q => !(q.1 == i) && !(q.1 + 1 == i && q.2.category == 2)))) : mq_lv g nL ls' (mq_sv L i v) := by
  refine ⟨h.1, h.2.1, fun t w hw => ?_⟩
  rcases mq_sv_get hw with ⟨rfl, rfl⟩ | ⟨h1, h2, h3⟩
  · exact h.2.2 _ List.mem_cons_self
  · refine h.2.2 (t, mq_cv g w) (List.mem_cons_of_mem _ (List.mem_filter.mpr ⟨mq_pr_mem h2, ?_⟩))
    simp only [mq_cv_cat, Bool.and_eq_true, Bool.not_eq_true', beq_eq_false_iff_ne, ne_eq, Bool.and_eq_false_iff]
    refine ⟨h1, ?_⟩
    by_cases e : t + 1 = i
    · exact Or.inr (fun q => h3 ⟨e, q⟩)
    · exact Or.inl e
theorem mq_lv.st2 {g : mq_GH} {nL : Nat} {ls' : Array Slot} {L : mq_L} {i : Nat} {v : Value} (h : lv_has ls' nL ((i, mq_cv g v) :: (mq_pr g L).filter (fun q => !(q.1 == i) && (!(q.1 == i + 1) && !(q.1 + 1 == i && q.2.category == 2))))) : mq_lv g nL ls' ((mq_sv L i v).set (i + 1) none) := by
  refine ⟨h.1, h.2.1, fun t w hw => ?_⟩
  rw [List.getElem?_set] at hw
  split at hw
  · split at hw
    · cases hw
    · cases hw
  · rename_i hne
    rcases mq_sv_get hw with ⟨rfl, rfl⟩ | ⟨h1, h2, h3⟩
    · exact h.2.2 _ List.mem_cons_self
    · refine h.2.2 (t, mq_cv g w) (List.mem_cons_of_mem _ (List.mem_filter.mpr ⟨mq_pr_mem h2, ?_⟩))
      simp only [mq_cv_cat, Bool.and_eq_true, Bool.not_eq_true', beq_eq_false_iff_ne, ne_eq, Bool.and_eq_false_iff]
      refine ⟨h1, fun e => hne e.symm, ?_⟩
      by_cases e : t + 1 = i
      · exact Or.inr (fun q => h3 ⟨e, q⟩)
      · exact Or.inl e
theorem mq_ld_get {L : mq_L} {a : Nat} {v : Value} (h : mq_ld L a = some v) : L[a]? = some (some v) := by
  unfold mq_ld at h
  split at h
  · rename_i w hw
    cases h
    exact hw
  · cases h
theorem mq_en_get (g : mq_GH) : ∀ (as : List Value) (n b i : Nat) (v : Value), (mq_en as n)[i]? = some (some v) → (b + i, mq_cv g v) ∈ lv_args b (as.map (mq_cv g))
  | [], n, b, i, v, h => by
    exfalso
    rw [show mq_en [] n = List.replicate n none from rfl, List.getElem?_replicate] at h
    split at h
    · cases h
    · cases h
  | w :: r, n, b, i, v, h => by
    unfold mq_en at h
    simp only [List.map_cons, lv_args, mq_cv_cat]
    cases hb : Nat.beq w.category 2 with
    | true =>
      have hc : w.category = 2 := Nat.eq_of_beq_eq_true hb
      rw [hb] at h
      simp only [cond_true] at h
      rw [if_pos hc]
      match i, h with
      | 0, h => simp at h; rw [h]; exact List.mem_cons_self
      | 1, h => simp at h
      | i + 2, h =>
        simp only [List.getElem?_cons_succ] at h
        have := mq_en_get g r (n - 2) (b + 2) i v h
        rw [show b + (i + 2) = b + 2 + i by omega]
        exact List.mem_cons_of_mem _ this
    | false =>
      have hc : ¬ w.category = 2 := fun e => by rw [e] at hb; cases hb
      rw [hb] at h
      simp only [cond_false] at h
      rw [if_neg hc]
      match i, h with
      | 0, h => simp at h; rw [h]; exact List.mem_cons_self
      | i + 1, h =>
        simp only [List.getElem?_cons_succ] at h
        have := mq_en_get g r (n - 1) (b + 1) i v h
        rw [show b + (i + 1) = b + 1 + i by omega]
        exact List.mem_cons_of_mem _ this
theorem mq_cat_sl (g : mq_GH) : ∀ (as : List Value), (lg_sl (as.map (mq_cv g))).length = mq_cat as
  | [] => rfl
  | v :: r => by
    have ih := mq_cat_sl g r
    simp only [List.map_cons, lg_sl, List.flatMap_cons, List.length_append, mq_cat, mq_cv_cat] at ih ⊢
    rw [ih]
    rcases lv_cat v with e | e <;> simp [e]
theorem mq_cat_sum (g : mq_GH) : ∀ (as : List Value), (((as.map (mq_cv g)).map fun v => v.category).sum) = mq_cat as
  | [] => rfl
  | v :: r => by simp [mq_cat, mq_cv_cat, ← mq_cat_sum g r]
/-! cells -/
theorem mq_cell.congr {g : mq_GH} {h h' : mq_H} {k : Nat} {H H1 : Heap} (hc : mq_cell g h k H) (hs : mq_sh h' k = mq_sh h k) (hi : mq_I h' k = mq_I h k) (hj : mq_J h' k = mq_J h k) (hr : mq_R h' k = mq_R h k) (hq : H1[mq_ad g k]? = H[mq_ad g k]?) : mq_cell g h' k H1 := by
  unfold mq_cell at hc ⊢
  rw [hs]
  split at hc
  · obtain ⟨r, h1, h2⟩ := hc
    refine ⟨r, h1, (h2.kept hq).to (fun j _ => ?_)⟩
    simp only [mq_fv, hi, hj, hr]
  · refine ⟨hc.1, ?_⟩
    rw [hq, hc.2]
    simp only [mq_adt, hi, hj, hr]
theorem mq_ad_ne {g : mq_GH} {j k : Nat} (hj : 4 ≤ j) (hk : 4 ≤ k) (h : j ≠ k) : mq_ad g j ≠ mq_ad g k := by
  unfold mq_ad
  rw [if_neg (by omega), if_neg (by omega)]
  omega
theorem mq_ad_ge {g : mq_GH} {k : Nat} (hk : 4 ≤ k) : g.1 ≤ mq_ad g k := by
  unfold mq_ad
  rw [if_neg (by omega)]
  omega
/-- one cell is written -/
theorem mq_rel.put {g : mq_GH} {T : mq_T} {h h' : mq_H} {H H1 : Heap} {k : Nat} (hr : mq_rel g T h H) (hk : 4 ≤ k) (hN : mq_N h' = mq_N h) (hs : ∀ j, mq_sh h' j = mq_sh h j) (ho : ∀ j, j ≠ k → mq_I h' j = mq_I h j ∧ mq_J h' j = mq_J h j ∧ mq_R h' j = mq_R h j) (hc : mq_cell g h' k H1) (hz : H1.size = H.size) (oq : ∀ q, q ≠ mq_ad g k → H1[q]? = H[q]?) (hb : ∀ n j, mq_sh h k = .inr (2, n) → mq_I h' k j = 0 ∨ mq_I h' k j = 1) (ht : ∀ j b, T.2 k j = some b → mq_R h' k j = some b) : mq_rel g T h' H1 := by
  obtain ⟨a1, a2, a3, a4, a5, a6, a7, a8, a9⟩ := hr
  refine ⟨by rw [hN]; exact a1, by rw [hz, hN]; exact a2, a3, fun j h4 hj => ?_, fun j hj => by rw [hs]; exact a5 j (by rw [hN] at hj; exact hj), fun j hj => by rw [hs]; exact a6 j hj, fun j n i hj => ?_, fun j s hj => ?_, fun j i b hj => ?_⟩
  · by_cases e : j = k
    · rw [e]; exact hc
    · obtain ⟨o1, o2, o3⟩ := ho j e
      exact (a4 j h4 (by rw [hN] at hj; exact hj)).congr (hs j) o1 o2 o3 (oq _ (mq_ad_ne h4 hk e))
  · rw [hs] at hj
    by_cases e : j = k
    · subst e; exact hb n i hj
    · rw [(ho j e).1]; exact a7 j n i hj
  · rw [hs, hN]; exact a8 j s hj
  · refine ⟨?_, (a9 j i b hj).2⟩
    by_cases e : j = k
    · subst e; exact ht i b hj
    · rw [(ho j e).2.2]; exact (a9 j i b hj).1
/-- a cell is made -/
theorem mq_rel.mk {g : mq_GH} {T : mq_T} {h : mq_H} {H H1 : Heap} {sh : mq_S} {z : Nat} (hr : mq_rel g T h H) (hc : mq_cell g (mq_new h sh z) (mq_N h) H1) (hz : H1.size = H.size + 1) (oq : ∀ q, q < H.size → H1[q]? = H[q]?) : mq_rel g T (mq_new h sh z) H1 := by
  obtain ⟨a1, a2, a3, a4, a5, a6, a7, a8, a9⟩ := hr
  have eN : mq_N (mq_new h sh z) = mq_N h + 1 := rfl
  have eS : ∀ j, j ≠ mq_N h → mq_sh (mq_new h sh z) j = mq_sh h j := fun j hj => by exact if_neg hj
  have eI : ∀ j, j ≠ mq_N h → mq_I (mq_new h sh z) j = mq_I h j := fun j hj => by funext i; exact if_neg hj
  have eJ : ∀ j, j ≠ mq_N h → mq_J (mq_new h sh z) j = mq_J h j := fun j hj => by funext i; exact if_neg hj
  have eR : ∀ j, j ≠ mq_N h → mq_R (mq_new h sh z) j = mq_R h j := fun j hj => by funext i; exact if_neg hj
  refine ⟨by rw [eN]; omega, by rw [hz, a2, eN]; omega, a3, fun j h4 hj => ?_, fun j hj => ?_, fun j hj => ?_, fun j n i hj => ?_, fun j s hj => ?_, fun j i b hj => ?_⟩
  · by_cases e : j = mq_N h
    · rw [e]; exact hc
    · refine (a4 j h4 (by rw [eN] at hj; omega)).congr (eS j e) (eI j e) (eJ j e) (eR j e) (oq _ ?_)
      unfold mq_ad
      rw [if_neg (by omega), a2]
      rw [eN] at hj
      omega
  · rw [eN] at hj
    rw [eS j (by omega)]
    exact a5 j (by omega)
  · rw [eS j (by omega)]
    exact a6 j hj
  · by_cases e : j = mq_N h
    · left
      subst e
      simp only [mq_I, mq_new, mq_N, if_true]
    · rw [eS j e] at hj
      rw [eI j e]
      exact a7 j n i hj
  · obtain ⟨b1, b2⟩ := a8 j s hj
    rw [eS j (by omega), eN]
    exact ⟨b1, by omega⟩
  · obtain ⟨b1, ci, b2⟩ := a9 j i b hj
    have := (a8 j _ b2).2
    rw [eR j (by omega)]
    exact ⟨b1, ci, b2⟩
/-- what a shape says of a cell's place -/
theorem mq_rel.lt {g : mq_GH} {T : mq_T} {h : mq_H} {H : Heap} (hr : mq_rel g T h H) {k : Nat} (hs : ∀ t n, mq_sh h k = .inr (t, n) → t < 9) : 4 ≤ k ∧ k < mq_N h := by
  obtain ⟨a1, a2, a3, a4, a5, a6, a7, a8⟩ := hr
  constructor
  · rcases Nat.lt_or_ge k 4 with q | q
    · obtain ⟨t, n, e1, e2⟩ := a6 k q
      have := hs t n e1
      omega
    · exact q
  · rcases Nat.lt_or_ge k (mq_N h) with q | q
    · exact q
    · have := hs _ _ (a5 k q)
      omega
theorem mq_rel.obj {g : mq_GH} {T : mq_T} {h : mq_H} {H : Heap} (hr : mq_rel g T h H) {k ci : Nat} (hs : mq_sh h k = .inl ci) : 4 ≤ k ∧ ∃ r : vw_C, mq_cl[ci]? = some r ∧ t_OB (mq_ad g k) (g.2.2.1.1 ci) r.2.2 (g.2.2.1.2 ci) H (fun j => mq_fv g h k ci j) := by
  obtain ⟨h1, h2⟩ := hr.lt (k := k) (fun t n e => by rw [hs] at e; cases e)
  have := hr.2.2.2.1 k h1 h2
  unfold mq_cell at this
  rw [hs] at this
  exact ⟨h1, this⟩
theorem mq_rel.arr {g : mq_GH} {T : mq_T} {h : mq_H} {H : Heap} (hr : mq_rel g T h H) {k ty n : Nat} (hs : mq_sh h k = .inr (ty, n)) (ht : ty < 9) : 4 ≤ k ∧ ty < 6 ∧ H[mq_ad g k]? = some (vp_cell (g.2.2.2 ty) (n, mq_adt g h k ty)) := by
  obtain ⟨h1, h2⟩ := hr.lt (k := k) (fun t n' e => by rw [hs] at e; cases e; exact ht)
  have := hr.2.2.2.1 k h1 h2
  unfold mq_cell at this
  rw [hs] at this
  exact ⟨h1, this⟩
theorem mq_ext.kept {g : mq_GH} {h h' : mq_H} {U : State} {H H1 : Heap} (hx : mq_ext g h U H) (hs : ∀ k, k < 4 → mq_sh h' k = mq_sh h k) (hi : ∀ k n, k < 4 → mq_sh h k = .inr (9, n) → mq_I h' k = mq_I h k) (hq : ∀ k, k < 4 → H1[g.2.1 k]? = H[g.2.1 k]?) : mq_ext g h' U H1 := by
  intro k n hk hn
  rw [hs k hk] at hn
  rw [hi k n hk hn]
  exact (hx k n hk hn).kept (hq k hk)
end
section
/-! WHAT THE TABLES OF CODE MUST KEEP, as a program decides it -/
def mq_gw : List Cond := lw_tbl.filter goodWord
def mq_nest : Cond → Bool
  | .methodLinkNest .. => true
  | _ => false
def mq_nw : List Cond := lw_tbl.filter mq_nest
def mq_hw (j : Nat) (w : Cond) : Bool := decide (lw_tbl[j]? = some w) && goodWord w
theorem mq_hw_in {j : Nat} {w : Cond} (h : mq_hw j w = true) : w ∈ mq_gw := by
  unfold mq_hw at h
  rw [Bool.and_eq_true, decide_eq_true_eq] at h
  exact List.mem_filter.mpr ⟨List.mem_of_getElem? h.1, h.2⟩
def mq_hn (j : Nat) (w : Cond) : Bool := decide (lw_tbl[j]? = some w) && mq_nest w
theorem mq_hn_in {j : Nat} {w : Cond} (h : mq_hn j w = true) : w ∈ mq_nw := by
  unfold mq_hn at h
  rw [Bool.and_eq_true, decide_eq_true_eq] at h
  exact List.mem_filter.mpr ⟨List.mem_of_getElem? h.1, h.2⟩
def mq_aty (a : Nat) : FieldType := match a with
  | 0 => .int
  | 1 => .byte
  | 2 => .boolean
  | _ => .long
def mq_ln (i : Instr) : Nat := match i with
  | .iload _ | .lload _ | .aload _ | .istore _ | .lstore _ | .astore _ | .bipush _ | .ldc _ | .newarray _ => 2
  | .sipush _ | .ldc_w _ | .ldc2_w _ | .iinc _ _ | .goto _ | .ifCond _ _ | .if_icmp _ _ | .ifnonnull _ | .getfield _ | .putfield _ | .getstatic _ | .checkcast _ | .new _ | .anewarray _ | .invokestatic _ | .invokespecial _ | .invokevirtual _ => 3
  | _ => 1
/-- a callee: its words are there, its room is within -/
def mq_okM (M : mq_M) : Bool := match M with
  | (y, _, _, ret, _, _, kd, ci, np, _, j2, j3, j4) => (mq_hw j4 (.initialized y.cls) && (decide (y.cls ≠ "java/lang/invoke/MethodHandle" ∧ y.cls ≠ "java/lang/invoke/VarHandle" ∧ (parseMethodDescriptor y.desc).map (fun d => d.parameters.length) = some np) && (decide (plainName y.cls = true) && (match kd with
    | 0 => mq_hw j2 (.static y)
    | 1 => mq_hw j2 (.instanceMethod y) && (mq_hw j3 (.selects y.cls y y) && (match mq_cl[ci]? with
      | some r => decide (r.1 = y.cls)
      | none => false))
    | 2 => mq_hw j2 (.instanceMethod y) && (decide (y.name = "<init>") && decide (ret = none))
    | _ => false))))
/-- its code is among the words -/
def mq_cod (M : mq_M) : Prop := Cond.code M.1 M.2.1 M.2.2.1 M.2.2.2.1 ∈ mq_gw
theorem mq_cod_of {j : Nat} {y : MethodName} {bs : ByteArray} {nL : Nat} {ret : Option FieldType} (h : lw_tbl[j]? = some (.code y bs nL ret)) : Cond.code y bs nL ret ∈ mq_gw := List.mem_filter.mpr ⟨List.mem_of_getElem? h, rfl⟩
def mq_okC (P : mq_P) (nM : Nat) (own : String) (fr lo a b i kd ci j : Nat) : Bool := Nat.blt a nM && (match P.1 a with
  | some (y2, _, nL2, _, fr2, lo2, kd2, ci2, np2, _, _, _, _) => Nat.beq kd2 kd && (Nat.beq np2 b && (Nat.ble (fr2 + 1) fr && (Nat.ble (8 + (nL2 + 11) + lo2) lo && ((Nat.beq ci2 ci || !(Nat.beq kd 1)) && (mq_hw j (.methodLink own i y2) || mq_hn j (.methodLinkNest own i y2 "RanOut"))))))
  | none => false)
def mq_okS (pc : Nat) : List Int → Bool
  | [] => true
  | o :: r => decide ((((pc : Int) + o).toNat : Int) = (pc : Int) + o) && mq_okS pc r
def mq_okX (P : mq_P) (nM : Nat) (y : MethodName) (nL : Nat) (ret : Option FieldType) (fr lo : Nat) (ins : Instr) (pc a b c : Nat) (k : Int32) (j : Nat) : Bool := match ins with
  | .iconst n => decide (Int32.ofInt n = k)
  | .bipush n => decide ((Int8.ofInt n).toInt32 = k)
  | .sipush n => decide ((Int16.ofInt n).toInt32 = k)
  | .ldc i => bif Nat.beq b 1 then decide (y.cls = "RanOut$Reader" ∧ i = jk_iW) else mq_hw j (.constant y.cls i k)
  | .getstatic i => decide (y.cls = "RanOut$Reader" ∧ i = jk_iU)
  | .checkcast i => mq_hw j (.classLink y.cls i "[I")
  | .ldc_w i => mq_hw j (.constant y.cls i k)
  | .ldc2_w i => mq_hw j (.constantLong y.cls i k.toInt64)
  | .lconst n => decide (Int64.ofNat (n : Nat) = k.toInt64)
  | .iload_n i => decide ((i : Nat) = a)
  | .iload i => decide (i = a)
  | .lload_n i => decide ((i : Nat) = a)
  | .lload i => decide (i = a)
  | .aload_n i => decide ((i : Nat) = a)
  | .aload i => decide (i = a)
  | .istore_n i => decide ((i : Nat) = a ∧ a < nL)
  | .istore i => decide (i = a ∧ a < nL)
  | .lstore_n i => decide ((i : Nat) = a ∧ a + 1 < nL)
  | .lstore i => decide (i = a ∧ a + 1 < nL)
  | .astore_n i => decide ((i : Nat) = a ∧ a < nL)
  | .astore i => decide (i = a ∧ a < nL)
  | .iinc i n => decide (i = a ∧ a < nL ∧ Int32.ofInt n = k)
  | .goto o => decide ((pc : Int) + o = (a : Int))
  | .ifCond _ o => decide ((pc : Int) + o = (a : Int))
  | .if_icmp _ o => decide ((pc : Int) + o = (a : Int))
  | .ifnonnull o => decide ((pc : Int) + o = (a : Int))
  | .tableswitch d lo' hi' offs => decide ((pc : Int) + d = (a : Int)) && (mq_okS pc offs.toList && decide (0 ≤ lo' ∧ hi' + 1 = lo' + (offs.toList.length : Int) ∧ lo' + (offs.toList.length : Int) < 2000))
  | .lookupswitch d ps => decide ((pc : Int) + d = (a : Int)) && (mq_okS pc (ps.toList.map (·.2)) && (ps.toList.all (fun q => decide ((Int32.ofInt q.1).toInt = q.1)) && (ps.toList.zip (ps.toList.drop 1)).all (fun (a, next) => a.1 < next.1)))
  | .getfield i => match mq_cl[a]? with
    | some r => Nat.blt b r.2.2 && (mq_hw j (.fieldLink y.cls i (r.2.1 b).1 (r.2.1 b).2.1 (r.2.1 b).2.2.1) && Nat.beq (mq_knd (mq_fty a b)) c)
    | none => false
  | .putfield i => match mq_cl[a]? with
    | some r => Nat.blt b r.2.2 && (mq_hw j (.fieldLink y.cls i (r.2.1 b).1 (r.2.1 b).2.1 (r.2.1 b).2.2.1) && (Nat.beq (mq_knd (mq_fty a b)) c && (!(r.2.1 b).2.2.2 || decide (y.name = "<init>" ∧ (r.2.1 b).1 = y.cls))))
    | none => false
  | .newarray t => decide (a < 4 ∧ newarray.typeOf t = mq_aty a)
  | .anewarray i => (Nat.beq a 4 && mq_hw j (.classLink y.cls i "RanOut$Law")) || (Nat.beq a 5 && mq_hw j (.classLink y.cls i "RanOut$Line"))
  | .new i => match mq_cl[a]? with
    | some r => mq_hw j (.classLink y.cls i r.1) && Nat.beq r.2.2 b
    | none => false
  | .aaload => decide (a = 4 ∨ a = 5)
  | .aastore => decide (a = 4 ∨ a = 5)
  | .invokestatic i => bif Nat.beq a 1000 then mq_hw j (.methodLink y.cls i arraycopyName) && (decide (b = 0 ∨ b = 2 ∨ b = 4 ∨ b = 5) && (Nat.ble 1 fr && Nat.ble 26 lo)) else (bif Nat.beq a 1002 then mq_hw j (.methodLink y.cls i Lib.Math.max.name) && (Nat.ble 1 fr && Nat.ble 21 lo) else (bif Nat.beq a 1003 then mq_hw j (.methodLink y.cls i Lib.Math.min.name) && (Nat.ble 1 fr && Nat.ble 21 lo) else mq_okC P nM y.cls fr lo a b i 0 c j))
  | .invokespecial i => bif Nat.beq a 1001 then mq_hw j (.methodLink y.cls i Lib.objectInit) && (Nat.ble 1 fr && Nat.ble 20 lo) else mq_okC P nM y.cls fr lo a b i 2 c j
  | .invokevirtual i => bif Nat.ble 1004 a then (bif Nat.beq a 1004 then decide (y.cls = "RanOut$Reader" ∧ i = jk_iC) && (Nat.ble 4 fr && Nat.ble 85 lo) else mq_hw j (.methodLink y.cls i ⟨"[I", "clone", "()Ljava/lang/Object;"⟩) && (Nat.ble 1 fr && Nat.ble 22 lo)) else mq_okC P nM y.cls fr lo a b i 1 c j
  | .ireturn => decide ((c = 1 ∧ ret = some .boolean) ∨ (¬ c = 1 ∧ ret = some .int))
  | .lreturn => decide (ret = some .long)
  | .areturn => match ret with
    | some (.object _) => true
    | some (.array _) => true
    | _ => false
  | .return_ => decide (ret = none)
  | _ => true
def mq_isSw (i : Instr) : Bool := match i with
  | .tableswitch .. => true
  | .lookupswitch .. => true
  | _ => false
def mq_okE (P : mq_P) (nM m pc : Nat) (e : mq_E) : Bool := match P.1 m with
  | none => false
  | some (y, bs, nL, ret, fr, lo, _) => match e with
    | (ins, nx, a, b, c, k, j) => (bif mq_isSw ins then decide (decode bs pc = .ok (ins, nx - pc)) else (decide (decode bs pc = .ok (ins, mq_ln ins)) && Nat.beq nx (pc + mq_ln ins))) && mq_okX P nM y nL ret fr lo ins pc a b c k j
end
section
theorem mq_lay_good {C : String} {T : u_T} {N : Nat} {w : Cond} (h : w ∈ u_ws C T N) : goodWord w = true := by
  obtain ⟨k, -, rfl⟩ := List.mem_map.mp h
  unfold u_lay
  split <;> rfl
def mq_clsP (ci : Nat) (r : vw_C) : Prop := (∀ w ∈ u_ws r.1 r.2.1 r.2.2, w ∈ mq_gw) ∧ (∀ k, k < r.2.2 → parseFieldDescriptor (r.2.1 k).2.2.1 = some (mq_fty ci k)) ∧ (∀ a, a < r.2.2 → ∀ b, b < r.2.2 → a ≠ b → (r.2.1 a).2.1 ≠ (r.2.1 b).2.1) ∧ (∀ k, k < r.2.2 → ¬ mq_knd (mq_fty ci k) = 9) ∧ Cond.instantiable r.1 r.2.2 ∈ mq_gw ∧ Cond.initialized r.1 ∈ mq_gw
theorem mq_cls0 : mq_clsP 0 ("RanOut$Acts", mq_f0, 4) := ⟨fun w hw => List.mem_filter.mpr ⟨mq_in0 w hw, mq_lay_good hw⟩, mq_tok0, mq_nm0, by decide +kernel, mq_hw_in (j := 286) (by decide +kernel), mq_hw_in (j := 114) (by decide +kernel)⟩
theorem mq_cls1 : mq_clsP 1 ("RanOut$Book", mq_f1, 4) := ⟨fun w hw => List.mem_filter.mpr ⟨mq_in1 w hw, mq_lay_good hw⟩, mq_tok1, mq_nm1, by decide +kernel, mq_hw_in (j := 138) (by decide +kernel), mq_hw_in (j := 109) (by decide +kernel)⟩
theorem mq_cls2 : mq_clsP 2 ("RanOut$Case", mq_f2, 13) := ⟨fun w hw => List.mem_filter.mpr ⟨mq_in2 w hw, mq_lay_good hw⟩, mq_tok2, mq_nm2, by decide +kernel, mq_hw_in (j := 412) (by decide +kernel), mq_hw_in (j := 118) (by decide +kernel)⟩
theorem mq_cls3 : mq_clsP 3 ("RanOut$Claims", mq_f3, 13) := ⟨fun w hw => List.mem_filter.mpr ⟨mq_in3 w hw, mq_lay_good hw⟩, mq_tok3, mq_nm3, by decide +kernel, mq_hw_in (j := 211) (by decide +kernel), mq_hw_in (j := 113) (by decide +kernel)⟩
theorem mq_cls4 : mq_clsP 4 ("RanOut$Clock", mq_f4, 16) := ⟨fun w hw => List.mem_filter.mpr ⟨mq_in4 w hw, mq_lay_good hw⟩, mq_tok4, mq_nm4, by decide +kernel, mq_hw_in (j := 406) (by decide +kernel), mq_hw_in (j := 117) (by decide +kernel)⟩
theorem mq_cls5 : mq_clsP 5 ("RanOut$LastDays", mq_f5, 6) := ⟨fun w hw => List.mem_filter.mpr ⟨mq_in5 w hw, mq_lay_good hw⟩, mq_tok5, mq_nm5, by decide +kernel, mq_hw_in (j := 518) (by decide +kernel), mq_hw_in (j := 119) (by decide +kernel)⟩
theorem mq_cls6 : mq_clsP 6 ("RanOut$Law", mq_f6, 2) := ⟨fun w hw => List.mem_filter.mpr ⟨mq_in6 w hw, mq_lay_good hw⟩, mq_tok6, mq_nm6, by decide +kernel, mq_hw_in (j := 151) (by decide +kernel), mq_hw_in (j := 111) (by decide +kernel)⟩
theorem mq_cls7 : mq_clsP 7 ("RanOut$Line", mq_f7, 6) := ⟨fun w hw => List.mem_filter.mpr ⟨mq_in7 w hw, mq_lay_good hw⟩, mq_tok7, mq_nm7, by decide +kernel, mq_hw_in (j := 814) (by decide +kernel), mq_hw_in (j := 127) (by decide +kernel)⟩
theorem mq_cls8 : mq_clsP 8 ("RanOut$Places", mq_f8, 8) := ⟨fun w hw => List.mem_filter.mpr ⟨mq_in8 w hw, mq_lay_good hw⟩, mq_tok8, mq_nm8, by decide +kernel, mq_hw_in (j := 144) (by decide +kernel), mq_hw_in (j := 110) (by decide +kernel)⟩
theorem mq_cls9 : mq_clsP 9 ("RanOut$Plan", mq_f9, 11) := ⟨fun w hw => List.mem_filter.mpr ⟨mq_in9 w hw, mq_lay_good hw⟩, mq_tok9, mq_nm9, by decide +kernel, mq_hw_in (j := 551) (by decide +kernel), mq_hw_in (j := 120) (by decide +kernel)⟩
theorem mq_cls10 : mq_clsP 10 ("RanOut$Reader", mq_f10, 18) := ⟨fun w hw => List.mem_filter.mpr ⟨mq_in10 w hw, mq_lay_good hw⟩, mq_tok10, mq_nm10, by decide +kernel, mq_hw_in (j := 340) (by decide +kernel), mq_hw_in (j := 116) (by decide +kernel)⟩
theorem mq_cls11 : mq_clsP 11 ("RanOut", mq_f11, 6) := ⟨fun w hw => List.mem_filter.mpr ⟨mq_in11 w hw, mq_lay_good hw⟩, mq_tok11, mq_nm11, by decide +kernel, mq_hw_in (j := 130) (by decide +kernel), mq_hw_in (j := 108) (by decide +kernel)⟩
theorem mq_cls12 : mq_clsP 12 ("RanOutModel", mq_f12, 72) := ⟨fun w hw => List.mem_filter.mpr ⟨mq_in12 w hw, mq_lay_good hw⟩, mq_tok12, mq_nm12, by decide +kernel, mq_hw_in (j := 1234) (by decide +kernel), mq_hw_in (j := 121) (by decide +kernel)⟩
theorem mq_cls {ci : Nat} {r : vw_C} (h : mq_cl[ci]? = some r) : mq_clsP ci r := by
  match ci, h with
  | 0, h => cases h; exact mq_cls0
  | 1, h => cases h; exact mq_cls1
  | 2, h => cases h; exact mq_cls2
  | 3, h => cases h; exact mq_cls3
  | 4, h => cases h; exact mq_cls4
  | 5, h => cases h; exact mq_cls5
  | 6, h => cases h; exact mq_cls6
  | 7, h => cases h; exact mq_cls7
  | 8, h => cases h; exact mq_cls8
  | 9, h => cases h; exact mq_cls9
  | 10, h => cases h; exact mq_cls10
  | 11, h => cases h; exact mq_cls11
  | 12, h => cases h; exact mq_cls12
  | n + 13, h => simp [mq_cl] at h
theorem mq_ac0 : Cond.arrayClass (mq_aty 0) ∈ mq_gw := mq_hw_in (j := 173) (by decide +kernel)
theorem mq_ac1 : Cond.arrayClass (mq_aty 1) ∈ mq_gw := mq_hw_in (j := 404) (by decide +kernel)
theorem mq_ac2 : Cond.arrayClass (mq_aty 2) ∈ mq_gw := mq_hw_in (j := 174) (by decide +kernel)
theorem mq_ac3 : Cond.arrayClass (mq_aty 3) ∈ mq_gw := mq_hw_in (j := 593) (by decide +kernel)
theorem mq_ac {a : Nat} (h : a < 4) : Cond.arrayClass (mq_aty a) ∈ mq_gw := by
  match a, h with
  | 0, _ => exact mq_ac0
  | 1, _ => exact mq_ac1
  | 2, _ => exact mq_ac2
  | 3, _ => exact mq_ac3
theorem mq_cpS : Cond.static arraycopyName ∈ mq_gw := mq_hw_in (j := 160) (by decide +kernel)
theorem mq_obI : Cond.instanceMethod Lib.objectInit ∈ mq_gw := mq_hw_in (j := 135) (by decide +kernel)
theorem mq_cpN : Cond.native arraycopyName ∈ mq_gw := mq_hw_in (j := 161) (by decide +kernel)
theorem mq_cpI0 : Cond.initialized "java/lang/System" ∈ mq_gw := mq_hw_in (j := 112) (by decide +kernel)
theorem mq_obC : Cond.code Lib.objectInit ⟨#[0xb1]⟩ 1 none ∈ mq_gw := mq_hw_in (j := 136) (by decide +kernel)
theorem mq_mxS : Cond.static Lib.Math.max.name ∈ mq_gw := mq_hw_in (j := 971) (by decide +kernel)
theorem mq_mxC : Cond.code Lib.Math.max.name Lib.Math.max.code 2 (some .int) ∈ mq_gw := mq_hw_in (j := 972) (by decide +kernel)
theorem mq_miS : Cond.static Lib.Math.min.name ∈ mq_gw := mq_hw_in (j := 736) (by decide +kernel)
theorem mq_miC : Cond.code Lib.Math.min.name Lib.Math.min.code 2 (some .int) ∈ mq_gw := mq_hw_in (j := 737) (by decide +kernel)
theorem mq_aoLaw : Cond.arrayOver (.object "RanOut$Law") ∈ lw_tbl := List.mem_of_getElem? (i := 150) (by decide +kernel)
theorem mq_aoLine : Cond.arrayOver (.object "RanOut$Line") ∈ lw_tbl := List.mem_of_getElem? (i := 153) (by decide +kernel)
theorem mq_mtI : Cond.initialized "java/lang/Math" ∈ mq_gw := mq_hw_in (j := 126) (by decide +kernel)
end
section
/-! THE CONSTANT OF THE READER's WORDS, and String.charAt of it -/
theorem jk_wok : ∀ j, j < 174 → (0 ≤ (jk_w j).toInt ∧ (jk_w j).toInt ≤ 255) ∧ (((jk_w j) &&& 255).toUInt32 % 65536).toInt32 = jk_w j ∧ narrow .char (.int (jk_w j)) = .int (jk_w j) := by decide +kernel
/-- what lies outside: UNIT_DAYS, the constant, its bytes, the JDK's statics -/
def jk_os (A : Nat → Prop) (aU aK aV : Nat) (U : State) (H : Heap) : Prop := va_Z "RanOut" "UNIT_DAYS" "[I" (.ref aU) A U H ∧ va_T .int aU 3 (fun j => .int (jk_ud j)) A U H ∧ va_O "java/lang/String" aK A U H ∧ va_OF "java/lang/String" "coder" "B" (.int 0) aK A U H ∧ va_OF "java/lang/String" "value" "[B" (.ref aV) aK A U H ∧ va_T .byte aV 174 (fun j => .int (jk_w j)) A U H ∧ va_Z "java/lang/String" "COMPACT_STRINGS" "Z" (.int 1) A U H ∧ va_Zq "jdk/internal/util/Preconditions" "SIOOBE_FORMATTER" "Ljava/util/function/BiFunction;" A U H
theorem va_Zq.movedJ {C n d : String} {A : Nat → Prop} {u U : State} {H : Heap} (hvm : u.vm.Alike U.vm) (h : va_Zq C n d A u H) : va_Zq C n d A U H := by
  rcases h with h | ⟨t, h⟩
  · exact Or.inl (h.moved hvm)
  · exact Or.inr ⟨t, h.moved hvm⟩
theorem va_Zq.keptJ {C n d : String} {A : Nat → Prop} {U : State} {H H1 : Heap} (h : va_Zq C n d A U H) (hq : ∀ a : Nat, a < H.size → ¬ A a → H1[a]? = H[a]?) : va_Zq C n d A U H1 := by
  rcases h with h | ⟨t, h⟩
  · exact Or.inl (h.kept hq)
  · exact Or.inr ⟨t, h.kept hq⟩
theorem jk_os.moved {A : Nat → Prop} {aU aK aV : Nat} {u U : State} {H : Heap} (hvm : u.vm.Alike U.vm) (h : jk_os A aU aK aV u H) : jk_os A aU aK aV U H := ⟨h.1.moved hvm, va_T.moved hvm h.2.1, va_O.moved hvm h.2.2.1, va_OF.moved hvm h.2.2.2.1, va_OF.moved hvm h.2.2.2.2.1, va_T.moved hvm h.2.2.2.2.2.1, h.2.2.2.2.2.2.1.moved hvm, h.2.2.2.2.2.2.2.movedJ hvm⟩
theorem jk_os.kept {A : Nat → Prop} {aU aK aV : Nat} {U : State} {H H1 : Heap} (h : jk_os A aU aK aV U H) (hq : ∀ a : Nat, a < H.size → ¬ A a → H1[a]? = H[a]?) : jk_os A aU aK aV U H1 := ⟨h.1.kept hq, h.2.1.kept hq, h.2.2.1.kept hq, h.2.2.2.1.kept hq, h.2.2.2.2.1.kept hq, h.2.2.2.2.2.1.kept hq, h.2.2.2.2.2.2.1.kept hq, h.2.2.2.2.2.2.2.keptJ hq⟩
/-- a contract's end: the answer, nothing written -/
def jk_Q (v : Option Value) : Array Value → State → Outcome → State → Prop := fun _ st o t => o = .returned v ∧ t.heap = st.heap
def jk_P (A : Nat → Prop) (aU aK aV : Nat) (as : List Value) : Array Value → State → Prop := fun a U => a = as.toArray ∧ jk_os A aU aK aV U U.heap
theorem jk_blind (A : Nat → Prop) (aU aK aV : Nat) (as : List Value) : FrameBlind (jk_P A aU aK aV as) := by
  intro a U gg mk ⟨q1, q2⟩
  exact ⟨q1, jk_os.moved (u := U) (U := U.calling gg mk a) (H := U.heap) (Vm.Alike.refl U.vm) q2⟩
theorem jk_GI {w : Cond} (hw : w ∈ mq_gw) : GoodIn mq_gw (w :: mq_gw) := by
  intro x hx
  rcases List.mem_cons.mp hx with rfl | hx
  · exact ⟨hw, good_of_word (List.mem_filter.mp hw).2⟩
  · exact ⟨hx, good_of_word (List.mem_filter.mp hx).2⟩
/-- all that lies outside, at a state -/
def mq_os (g : mq_GH) (U : State) : Prop := ∃ aV : Nat, jk_os (fun q : Nat => g.1 ≤ q) (g.2.1 1) (g.2.1 2) aV U U.heap ∧ vk_R "RanOut$Reader" 167 "term  long  stop  renew roll  from  when  days  monthsyears done  known due   child abroadwar   talks ask   pay   lettersuit  or    and   not   kind  sum   place year  ran   " (g.2.1 2) U ∧ va_Nw (.fieldLinkNest "RanOut$Reader" 95 "RanOut" "UNIT_DAYS" "[I" "RanOut") U ∧ va_Nw (.castable "[I" "java/lang/Cloneable") U ∧ va_Nw (.sameMethod "[I" "java/lang/Object" "clone" "()Ljava/lang/Object;") U
theorem mq_os.to {g : mq_GH} {s t : State} {H : Heap} (h : mq_os g s) (hW : s.WarmedH t.vm) (ht : t.heap = H) (hq : ∀ q : Nat, q < s.heap.size → ¬ g.1 ≤ q → H[q]? = s.heap[q]?) : mq_os g t := by
  obtain ⟨aV, h1, h2, h3, h4, h5⟩ := h
  refine ⟨aV, ?_, h2.warm hW, h3.warmF hW, h4.warmC hW, ?_⟩
  · rw [ht]
    exact (h1.kept hq).moved hW.alike
  · exact va_tabs rfl (rfl : (s.setVm t.vm).vm = t.vm) (Cond.sameMethod_setVm hW.alike ⟨by decide, by decide⟩ h5)
theorem mq_os.calling {g : mq_GH} {U : State} (h : mq_os g U) (gg : JFrame) (mk : MethodId) (a : Array Value) : mq_os g (U.calling gg mk a) := by
  obtain ⟨aV, h1, h2, h3, h4, h5⟩ := h
  exact ⟨aV, jk_os.moved (u := U) (U := U.calling gg mk a) (H := U.heap) (Vm.Alike.refl U.vm) h1, vk_R.same (u := U) (U := U.calling gg mk a) rfl h2, h3.same rfl rfl, h4.same rfl rfl, h5.same rfl rfl⟩
section JK1
variable {p : Program} {l : Launch} {e : Env} {R : Room} {s : State} {m : MethodId} {args : Array Value} {below : List Frame} {meth : Method} {c : Code} {H : Heap} {locs : List Loc} {cells slots : Nat} {Q : State → Prop}
theorem jk_go {pc : Nat} {ls : Array Slot} {st0 rest : List Value} {v : Option Value} {a : Array Value} (hr : va_Run p l e R s m args below meth c H locs cells slots 0 0 (F0 m pc ls st0) rest (jk_Q v a) (fun _ => False)) (K : W p l e R s m args below meth c H locs cells slots Q (F0 m (pc + 3) ls (v.toList ++ rest))) : W p l e R s m args below meth c H locs cells slots Q (F0 m pc ls st0) := by
  intro T0 hT X
  obtain ⟨v', st₀, t, T', L, e0, X', hL, e1, e2, ⟨hv, hh⟩, st⟩ := hr T0 hT X
  cases hv
  have hLn : L = [] := List.eq_nil_iff_forall_not_mem.mpr (fun q hq => hL q hq)
  subst hLn
  rw [List.append_nil, Nat.add_zero, Nat.add_zero] at X'
  obtain ⟨t2, a1, b1⟩ := K T' (by rw [e1, hh, e0]) X'
  exact ⟨t2, st t2 a1, b1⟩
end JK1
abbrev jk_bPC : ByteArray := prog_23_method_11_code
abbrev jk_bSC : ByteArray := prog_18_method_155_code
abbrev jk_bLC : ByteArray := prog_19_method_2_code
abbrev jk_bIL : ByteArray := prog_18_method_154_code
abbrev jk_bCA : ByteArray := prog_18_method_56_code
def jk_yPC : MethodName := ⟨"jdk/internal/util/Preconditions", "checkIndex", "(IILjava/util/function/BiFunction;)I"⟩
def jk_ySC : MethodName := ⟨"java/lang/String", "checkIndex", "(II)V"⟩
def jk_yLC : MethodName := ⟨"java/lang/StringLatin1", "charAt", "([BI)C"⟩
def jk_yIL : MethodName := ⟨"java/lang/String", "isLatin1", "()Z"⟩
def jk_yCA : MethodName := ⟨"java/lang/String", "charAt", "(I)C"⟩
set_option maxRecDepth 100000 in
theorem jk_cPC : Cond.code jk_yPC jk_bPC 3 (some .int) ∈ mq_gw := mq_cod_of (j := 712) rfl
set_option maxRecDepth 100000 in
theorem jk_cSC : Cond.code jk_ySC jk_bSC 2 none ∈ mq_gw := mq_cod_of (j := 707) rfl
set_option maxRecDepth 100000 in
theorem jk_cLC : Cond.code jk_yLC jk_bLC 2 (some .char) ∈ mq_gw := mq_cod_of (j := 704) rfl
set_option maxRecDepth 100000 in
theorem jk_cIL : Cond.code jk_yIL jk_bIL 1 (some .boolean) ∈ mq_gw := mq_cod_of (j := 699) rfl
set_option maxRecDepth 100000 in
theorem jk_cCA : Cond.code jk_yCA jk_bCA 2 (some .char) ∈ mq_gw := mq_cod_of (j := 695) rfl
theorem jk_sPC : Cond.static jk_yPC ∈ mq_gw := mq_hw_in (j := 711) (by decide +kernel)
theorem jk_sSC : Cond.static jk_ySC ∈ mq_gw := mq_hw_in (j := 706) (by decide +kernel)
theorem jk_sLC : Cond.static jk_yLC ∈ mq_gw := mq_hw_in (j := 703) (by decide +kernel)
theorem jk_iIL : Cond.instanceMethod jk_yIL ∈ mq_gw := mq_hw_in (j := 697) (by decide +kernel)
theorem jk_iCA : Cond.instanceMethod jk_yCA ∈ mq_gw := mq_hw_in (j := 693) (by decide +kernel)
theorem jk_lIL : Cond.selects "java/lang/String" jk_yIL jk_yIL ∈ mq_gw := mq_hw_in (j := 698) (by decide +kernel)
theorem jk_lCA : Cond.selects "java/lang/String" jk_yCA jk_yCA ∈ mq_gw := mq_hw_in (j := 694) (by decide +kernel)
theorem jk_nST : Cond.initialized "java/lang/String" ∈ mq_gw := mq_hw_in (j := 122) (by decide +kernel)
theorem jk_nSL : Cond.initialized "java/lang/StringLatin1" ∈ mq_gw := mq_hw_in (j := 123) (by decide +kernel)
theorem jk_nPR : Cond.initialized "jdk/internal/util/Preconditions" ∈ mq_gw := mq_hw_in (j := 124) (by decide +kernel)
theorem jk_mPC : Cond.methodLink "java/lang/String" 1059 jk_yPC ∈ mq_gw := mq_hw_in (j := 710) (by decide +kernel)
theorem jk_mSC : Cond.methodLink "java/lang/StringLatin1" 9 jk_ySC ∈ mq_gw := mq_hw_in (j := 705) (by decide +kernel)
theorem jk_mLC : Cond.methodLink "java/lang/String" 495 jk_yLC ∈ mq_gw := mq_hw_in (j := 702) (by decide +kernel)
theorem jk_mIL : Cond.methodLink "java/lang/String" 492 jk_yIL ∈ mq_gw := mq_hw_in (j := 696) (by decide +kernel)
theorem jk_mCA : Cond.methodLink "RanOut$Reader" 169 jk_yCA ∈ mq_gw := mq_hw_in (j := 692) (by decide +kernel)
theorem jk_ffm : Cond.fieldLink "java/lang/String" 1053 "jdk/internal/util/Preconditions" "SIOOBE_FORMATTER" "Ljava/util/function/BiFunction;" ∈ mq_gw := mq_hw_in (j := 708) (by decide +kernel)
theorem jk_fco : Cond.fieldLink "java/lang/String" 38 "java/lang/String" "COMPACT_STRINGS" "Z" ∈ mq_gw := mq_hw_in (j := 700) (by decide +kernel)
theorem jk_fcd : Cond.fieldLink "java/lang/String" 15 "java/lang/String" "coder" "B" ∈ mq_gw := mq_hw_in (j := 1828) (by decide +kernel)
theorem jk_fva : Cond.fieldLink "java/lang/String" 9 "java/lang/String" "value" "[B" ∈ mq_gw := mq_hw_in (j := 1829) (by decide +kernel)
theorem jk_in {i : Int32} {n : Nat} (h0 : 0 ≤ i.toInt) (h1 : i.toInt < (n : Int)) : vp_in i n := by
  have : ((i.toNatClampNeg : Nat) : Int) = i.toInt := by show ((i.toInt.toNat : Nat) : Int) = i.toInt; omega
  unfold vp_in
  refine fun q => ?_
  rcases q with q | q
  · rw [Int32.lt_iff_toInt_lt] at q
    have : (0 : Int32).toInt = 0 := rfl
    omega
  · omega
abbrev jk_yOC : MethodName := ⟨"java/lang/Object", "clone", "()Ljava/lang/Object;"⟩
theorem jk_nOC : Cond.native jk_yOC ∈ mq_gw := mq_hw_in (j := 807) (by decide +kernel)
theorem jk_iOC : Cond.instanceMethod jk_yOC ∈ mq_gw := mq_hw_in (j := 808) (by decide +kernel)
theorem jk_lOC : Cond.selects "[I" ⟨"[I", "clone", "()Ljava/lang/Object;"⟩ jk_yOC ∈ mq_gw := mq_hw_in (j := 809) (by decide +kernel)
section JK2
variable {l : Launch} {A : Nat → Prop} {aU aK aV : Nat}
set_option maxRecDepth 20000 in
/-- Preconditions.checkIndex -/
theorem jk_PC {i n : Int32} {v : Value} (h0 : 0 ≤ i.toInt) (h1 : i.toInt < n.toInt) (hv : v = .null ∨ ∃ t : Nat, v = .ref t) : Met l jk_yPC (Cond.code jk_yPC jk_bPC 3 (some .int) :: mq_gw) ({ frames := 0, cells := 0, slots := 0, locals := 0 }) (jk_P A aU aK aV [.int i, .int n, v]) (jk_Q (some (.int i))) 0 0 (fun _ => False) := by
  refine Met.ofW (cc := jk_bPC) (maxL := 3) (ret := some .int) (by decide) rfl ?_
  intro p e s mid args below meth c s₁ B hml hp
  obtain ⟨rfl, hos⟩ := hp
  have hx := B.exec
  have hb := B.bytes
  have hl := lv_entry [.int i, .int n, v] (n := 3) (by rcases hv with rfl | ⟨t, rfl⟩ <;> simp [lg_sl, Value.category])
  rw [lg_entry_eq]
  generalize (lg_sl [Value.int i, .int n, v] ++ List.replicate (3 - (lg_sl [Value.int i, .int n, v]).length) Slot.unset).toArray = ls at hl
  refine lv_iload_n (i := 0) hx hb (show decode jk_bPC 0 = .ok (.iload_n 0, 1) by decide +kernel) rfl (lv_at hl 0 rfl) ?_
  refine lv_if_lt hx hb (tgt := 9) (show decode jk_bPC 1 = .ok (.ifCond .lt 8, 3) by decide +kernel) rfl (fun q => ?_) (fun _ => ?_)
  · exfalso
    rw [Int32.lt_iff_toInt_lt] at q
    have : (0 : Int32).toInt = 0 := rfl
    omega
  refine lv_iload_n (i := 0) hx hb (show decode jk_bPC 4 = .ok (.iload_n 0, 1) by decide +kernel) rfl (lv_at hl 0 rfl) ?_
  refine lv_iload_n (i := 1) hx hb (show decode jk_bPC 5 = .ok (.iload_n 1, 1) by decide +kernel) rfl (lv_at hl 1 rfl) ?_
  refine lv_icmp_lt hx hb (tgt := 16) (show decode jk_bPC 6 = .ok (.if_icmp .lt 10, 3) by decide +kernel) rfl (fun _ => ?_) (fun q => ?_)
  · refine lv_iload_n (i := 0) hx hb (show decode jk_bPC 16 = .ok (.iload_n 0, 1) by decide +kernel) rfl (lv_at hl 0 rfl) ?_
    exact W.iret hx hb B.returns (fun t ht hW => ⟨rfl, ht⟩) (fun q hq => by cases hq) (show decode jk_bPC 17 = .ok (.ireturn, 1) by decide +kernel) (hlocks := B.notSynchronized)
  · exfalso
    rw [Int32.lt_iff_toInt_lt] at q
    omega
set_option maxRecDepth 20000 in
/-- String.checkIndex -/
theorem jk_SC {i n : Int32} (h0 : 0 ≤ i.toInt) (h1 : i.toInt < n.toInt) : Met l jk_ySC (Cond.code jk_ySC jk_bSC 2 none :: mq_gw) ({ frames := 1, cells := 0, slots := 0, locals := 22 }) (jk_P A aU aK aV [.int i, .int n]) (jk_Q none) 0 0 (fun _ => False) := by
  refine Met.ofW (cc := jk_bSC) (maxL := 2) (ret := none) (by decide) rfl ?_
  intro p e s mid args below meth c s₁ B hml hp
  obtain ⟨rfl, hos⟩ := hp
  have hx := B.exec
  have hb := B.bytes
  have hts0 : ∀ w ∈ (Cond.code jk_ySC jk_bSC 2 none :: mq_gw), w.before _ s = true := atoms_spec (ws := Cond.code jk_ySC jk_bSC 2 none :: mq_gw) B.pre
  have hts : ∀ w ∈ mq_gw, w.before _ s = true := fun w hw => hts0 w (List.mem_cons_of_mem _ hw)
  have hown : s.vm.findClass "java/lang/String" = some mid.cls := findClass_of_methodNamed B.named
  have hl := lv_entry [.int i, .int n] (n := 2) (by simp [lg_sl, Value.category])
  rw [lg_entry_eq]
  generalize (lg_sl [Value.int i, .int n] ++ List.replicate (2 - (lg_sl [Value.int i, .int n]).length) Slot.unset).toArray = ls at hl
  refine lv_iload_n (i := 0) hx hb (show decode jk_bSC 0 = .ok (.iload_n 0, 1) by decide +kernel) rfl (lv_at hl 0 rfl) ?_
  refine lv_iload_n (i := 1) hx hb (show decode jk_bSC 1 = .ok (.iload_n 1, 1) by decide +kernel) rfl (lv_at hl 1 rfl) ?_
  have hz : ∃ v : Value, (v = .null ∨ ∃ t : Nat, v = .ref t) ∧ va_Z "jdk/internal/util/Preconditions" "SIOOBE_FORMATTER" "Ljava/util/function/BiFunction;" v A s s.heap := by
    rcases hos.2.2.2.2.2.2.2 with hZ | ⟨t, hZ⟩
    · exact ⟨_, Or.inl rfl, hZ⟩
    · exact ⟨_, Or.inr ⟨t, rfl⟩, hZ⟩
  obtain ⟨v, hv, hZ⟩ := hz
  refine va_gets hx hb hZ va_S.rf hown (hts _ jk_ffm) (fun _ z => z) (show decode jk_bSC 2 = .ok (.getstatic 1053, 3) by decide +kernel) ?_
  refine jk_go (v := some (.int i)) (va_runS (As := [.int i, .int n, v]) ⟨hx, hb, hml, hown, hts⟩ (jk_PC h0 h1 hv) ⟨callB_of 3 hts (jk_GI jk_cPC) rfl rfl rfl (hts _ jk_nPR) (hts _ jk_mPC) (by decide +kernel) ⟨by decide, by decide⟩, hts _ jk_sPC⟩ ⟨jk_blind A aU aK aV _, fun U hU hW => ⟨rfl, (by rw [hU]; exact hos.moved hW.alike)⟩⟩ rfl rfl hl.1 rfl (lv_room (by simp)) (show decode jk_bSC 5 = .ok (.invokestatic 1059, 3) by decide +kernel) ⟨by decide, by decide⟩) ?_
  refine lv_pop hx hb (show decode jk_bSC 8 = .ok (.pop, 1) by decide +kernel) rfl ?_
  exact W.vret hx hb B.returns (fun t ht hW => ⟨rfl, ht⟩) (fun q hq => by cases hq) (show decode jk_bSC 9 = .ok (.return_, 1) by decide +kernel) (hlocks := B.notSynchronized)
set_option maxRecDepth 20000 in
/-- StringLatin1.charAt -/
theorem jk_LC {i : Int32} (h0 : 0 ≤ i.toInt) (h1 : i.toInt < 174) : Met l jk_yLC (Cond.code jk_yLC jk_bLC 2 (some .char) :: mq_gw) ({ frames := 2, cells := 0, slots := 0, locals := 43 }) (jk_P A aU aK aV [.ref aV, .int i]) (jk_Q (some (.int (jk_w i.toNatClampNeg)))) 0 0 (fun _ => False) := by
  refine Met.ofW (cc := jk_bLC) (maxL := 2) (ret := some .char) (by decide) rfl ?_
  intro p e s mid args below meth c s₁ B hml hp
  obtain ⟨rfl, hos⟩ := hp
  have hx := B.exec
  have hb := B.bytes
  have hts0 : ∀ w ∈ (Cond.code jk_yLC jk_bLC 2 (some .char) :: mq_gw), w.before _ s = true := atoms_spec (ws := Cond.code jk_yLC jk_bLC 2 (some .char) :: mq_gw) B.pre
  have hts : ∀ w ∈ mq_gw, w.before _ s = true := fun w hw => hts0 w (List.mem_cons_of_mem _ hw)
  have hown : s.vm.findClass "java/lang/StringLatin1" = some mid.cls := findClass_of_methodNamed B.named
  have hl := lv_entry [.ref aV, .int i] (n := 2) (by simp [lg_sl, Value.category])
  rw [lg_entry_eq]
  generalize (lg_sl [Value.ref aV, .int i] ++ List.replicate (2 - (lg_sl [Value.ref aV, .int i]).length) Slot.unset).toArray = ls at hl
  have hcl : ((i.toNatClampNeg : Nat) : Int) = i.toInt := by show ((i.toInt.toNat : Nat) : Int) = i.toInt; omega
  obtain ⟨w1, w2, w3⟩ := jk_wok i.toNatClampNeg (by omega)
  refine lv_iload_n (i := 1) hx hb (show decode jk_bLC 0 = .ok (.iload_n 1, 1) by decide +kernel) rfl (lv_at hl 1 rfl) ?_
  refine lv_aload_n (i := 0) hx hb (show decode jk_bLC 1 = .ok (.aload_n 0, 1) by decide +kernel) rfl (lv_at hl 0 rfl) ?_
  refine va_tlen hx hb hos.2.2.2.2.2.1 va_S.rf (v := 174) rfl (show decode jk_bLC 2 = .ok (.arraylength, 1) by decide +kernel) ?_
  refine jk_go (v := none) (va_runS (As := [.int i, .int 174]) ⟨hx, hb, hml, hown, hts⟩ (jk_SC h0 (show i.toInt < (174 : Int32).toInt from h1)) ⟨callB_of 2 hts (jk_GI jk_cSC) rfl rfl rfl (hts _ jk_nST) (hts _ jk_mSC) (by decide +kernel) ⟨by decide, by decide⟩, hts _ jk_sSC⟩ ⟨jk_blind A aU aK aV _, fun U hU hW => ⟨rfl, (by rw [hU]; exact hos.moved hW.alike)⟩⟩ rfl rfl hl.1 rfl (lv_room (by simp)) (show decode jk_bLC 3 = .ok (.invokestatic 9, 3) by decide +kernel) ⟨by decide, by decide⟩) ?_
  refine lv_aload_n (i := 0) hx hb (show decode jk_bLC 6 = .ok (.aload_n 0, 1) by decide +kernel) rfl (lv_at hl 0 rfl) ?_
  refine lv_iload_n (i := 1) hx hb (show decode jk_bLC 7 = .ok (.iload_n 1, 1) by decide +kernel) rfl (lv_at hl 1 rfl) ?_
  refine va_tb hx hb hos.2.2.2.2.2.1 va_S.rf (jk_in h0 h1) rfl (show decode jk_bLC 8 = .ok (.baload, 1) by decide +kernel) ?_
  refine lv_sipush hx hb (v := 255) (show decode jk_bLC 9 = .ok (.sipush 255, 3) by decide +kernel) (by decide +kernel) ?_
  refine lv_iand hx hb (show decode jk_bLC 12 = .ok (.iand, 1) by decide +kernel) ?_
  refine lv_i2c hx hb (show decode jk_bLC 13 = .ok (.i2c, 1) by decide +kernel) w2 ?_
  exact W.zret hx hb B.returns w3 (fun t ht hW => ⟨rfl, ht⟩) (fun q hq => by cases hq) (show decode jk_bLC 14 = .ok (.ireturn, 1) by decide +kernel) (hlocks := B.notSynchronized)
set_option maxRecDepth 20000 in
/-- String.isLatin1 -/
theorem jk_IL : Met l jk_yIL (Cond.code jk_yIL jk_bIL 1 (some .boolean) :: mq_gw) ({ frames := 0, cells := 0, slots := 0, locals := 0 }) (jk_P A aU aK aV [.ref aK]) (jk_Q (some (.int 1))) 0 0 (fun _ => False) := by
  refine Met.ofW (cc := jk_bIL) (maxL := 1) (ret := some .boolean) (by decide) rfl ?_
  intro p e s mid args below meth c s₁ B hml hp
  obtain ⟨rfl, hos⟩ := hp
  have hx := B.exec
  have hb := B.bytes
  have hts0 : ∀ w ∈ (Cond.code jk_yIL jk_bIL 1 (some .boolean) :: mq_gw), w.before _ s = true := atoms_spec (ws := Cond.code jk_yIL jk_bIL 1 (some .boolean) :: mq_gw) B.pre
  have hts : ∀ w ∈ mq_gw, w.before _ s = true := fun w hw => hts0 w (List.mem_cons_of_mem _ hw)
  have hown : s.vm.findClass "java/lang/String" = some mid.cls := findClass_of_methodNamed B.named
  have hl := lv_entry [.ref aK] (n := 1) (by simp [lg_sl, Value.category])
  rw [lg_entry_eq]
  generalize (lg_sl [Value.ref aK] ++ List.replicate (1 - (lg_sl [Value.ref aK]).length) Slot.unset).toArray = ls at hl
  refine va_gets hx hb hos.2.2.2.2.2.2.1 va_S.rf hown (hts _ jk_fco) (fun _ z => z) (show decode jk_bIL 0 = .ok (.getstatic 38, 3) by decide +kernel) ?_
  refine lv_if_eq hx hb (tgt := 17) (show decode jk_bIL 3 = .ok (.ifCond .eq 14, 3) by decide +kernel) rfl (fun q => by cases q) (fun _ => ?_)
  refine lv_aload_n (i := 0) hx hb (show decode jk_bIL 6 = .ok (.aload_n 0, 1) by decide +kernel) rfl (lv_at hl 0 rfl) ?_
  refine vk_getf hx hb hos.2.2.2.1 va_S.rf hown (hts _ jk_fcd) (fun _ z => z) (show decode jk_bIL 7 = .ok (.getfield 15, 3) by decide +kernel) ?_
  refine lv_if_ne hx hb (tgt := 17) (show decode jk_bIL 10 = .ok (.ifCond .ne 7, 3) by decide +kernel) rfl (fun q => absurd rfl q) (fun _ => ?_)
  refine lv_iconst hx hb (v := 1) (show decode jk_bIL 13 = .ok (.iconst 1, 1) by decide +kernel) (by decide +kernel) ?_
  refine lv_goto hx hb (tgt := 18) (show decode jk_bIL 14 = .ok (.goto 4, 3) by decide +kernel) rfl ?_
  exact W.zret hx hb B.returns (by decide) (fun t ht hW => ⟨rfl, ht⟩) (fun q hq => by cases hq) (show decode jk_bIL 18 = .ok (.ireturn, 1) by decide +kernel) (hlocks := B.notSynchronized)
set_option maxRecDepth 20000 in
/-- String.charAt -/
theorem jk_CA {i : Int32} (h0 : 0 ≤ i.toInt) (h1 : i.toInt < 174) : Met l jk_yCA (Cond.code jk_yCA jk_bCA 2 (some .char) :: mq_gw) ({ frames := 3, cells := 0, slots := 0, locals := 64 }) (jk_P A aU aK aV [.ref aK, .int i]) (jk_Q (some (.int (jk_w i.toNatClampNeg)))) 0 0 (fun _ => False) := by
  refine Met.ofW (cc := jk_bCA) (maxL := 2) (ret := some .char) (by decide) rfl ?_
  intro p e s mid args below meth c s₁ B hml hp
  obtain ⟨rfl, hos⟩ := hp
  have hx := B.exec
  have hb := B.bytes
  have hts0 : ∀ w ∈ (Cond.code jk_yCA jk_bCA 2 (some .char) :: mq_gw), w.before _ s = true := atoms_spec (ws := Cond.code jk_yCA jk_bCA 2 (some .char) :: mq_gw) B.pre
  have hts : ∀ w ∈ mq_gw, w.before _ s = true := fun w hw => hts0 w (List.mem_cons_of_mem _ hw)
  have hown : s.vm.findClass "java/lang/String" = some mid.cls := findClass_of_methodNamed B.named
  have hl := lv_entry [.ref aK, .int i] (n := 2) (by simp [lg_sl, Value.category])
  rw [lg_entry_eq]
  generalize (lg_sl [Value.ref aK, .int i] ++ List.replicate (2 - (lg_sl [Value.ref aK, .int i]).length) Slot.unset).toArray = ls at hl
  have hcl : ((i.toNatClampNeg : Nat) : Int) = i.toInt := by show ((i.toInt.toNat : Nat) : Int) = i.toInt; omega
  obtain ⟨w1, w2, w3⟩ := jk_wok i.toNatClampNeg (by omega)
  obtain ⟨cellB, g1, g2, g3, -⟩ := id hos.2.2.1
  refine lv_aload_n (i := 0) hx hb (show decode jk_bCA 0 = .ok (.aload_n 0, 1) by decide +kernel) rfl (lv_at hl 0 rfl) ?_
  refine jk_go (v := some (.int 1)) (va_runV (C := "java/lang/String") (b := aK) (As := []) ⟨hx, hb, hml, hown, hts⟩ jk_IL ⟨callB_of 0 hts (jk_GI jk_cIL) rfl rfl rfl (hts _ jk_nST) (hts _ jk_mIL) (by decide +kernel) ⟨by decide, by decide⟩, hts _ jk_iIL, hts _ jk_lIL⟩ ⟨jk_blind A aU aK aV _, ⟨cellB, g1, g2, g3⟩, fun U hU hW => ⟨rfl, (by rw [hU]; exact hos.moved hW.alike)⟩⟩ rfl rfl hl.1 rfl (lv_room (by simp)) (show decode jk_bCA 1 = .ok (.invokevirtual 492, 3) by decide +kernel) ⟨by decide, by decide⟩) ?_
  refine lv_if_eq hx hb (tgt := 16) (show decode jk_bCA 4 = .ok (.ifCond .eq 12, 3) by decide +kernel) rfl (fun q => by cases q) (fun _ => ?_)
  refine lv_aload_n (i := 0) hx hb (show decode jk_bCA 7 = .ok (.aload_n 0, 1) by decide +kernel) rfl (lv_at hl 0 rfl) ?_
  refine vk_getf hx hb hos.2.2.2.2.1 va_S.rf hown (hts _ jk_fva) (fun _ z => z) (show decode jk_bCA 8 = .ok (.getfield 9, 3) by decide +kernel) ?_
  refine lv_iload_n (i := 1) hx hb (show decode jk_bCA 11 = .ok (.iload_n 1, 1) by decide +kernel) rfl (lv_at hl 1 rfl) ?_
  refine jk_go (v := some (.int (jk_w i.toNatClampNeg))) (va_runS (As := [.ref aV, .int i]) ⟨hx, hb, hml, hown, hts⟩ (jk_LC h0 h1) ⟨callB_of 2 hts (jk_GI jk_cLC) rfl rfl rfl (hts _ jk_nSL) (hts _ jk_mLC) (by decide +kernel) ⟨by decide, by decide⟩, hts _ jk_sLC⟩ ⟨jk_blind A aU aK aV _, fun U hU hW => ⟨rfl, (by rw [hU]; exact hos.moved hW.alike)⟩⟩ rfl rfl hl.1 rfl (lv_room (by simp)) (show decode jk_bCA 12 = .ok (.invokestatic 495, 3) by decide +kernel) ⟨by decide, by decide⟩) ?_
  exact W.zret hx hb B.returns w3 (fun t ht hW => ⟨rfl, ht⟩) (fun q hq => by cases hq) (show decode jk_bCA 15 = .ok (.ireturn, 1) by decide +kernel) (hlocks := B.notSynchronized)
end JK2
theorem jk_zU : Cond.laysStatic "RanOut" "UNIT_DAYS" "[I" ∈ lw_tbl := List.mem_of_getElem? (i := 765) (by decide +kernel)
theorem jk_nU : Cond.initialized "RanOut" ∈ lw_tbl := List.mem_of_getElem? (i := 108) (by decide +kernel)
theorem jk_zC : Cond.laysStatic "java/lang/String" "COMPACT_STRINGS" "Z" ∈ lw_tbl := List.mem_of_getElem? (i := 701) (by decide +kernel)
theorem jk_zF : Cond.laysStatic "jdk/internal/util/Preconditions" "SIOOBE_FORMATTER" "Ljava/util/function/BiFunction;" ∈ lw_tbl := List.mem_of_getElem? (i := 709) (by decide +kernel)
theorem jk_sR : Cond.stringRef "RanOut$Reader" 167 "term  long  stop  renew roll  from  when  days  monthsyears done  known due   child abroadwar   talks ask   pay   lettersuit  or    and   not   kind  sum   place year  ran   " ∈ lw_tbl := List.mem_of_getElem? (i := 691) (by decide +kernel)
theorem jk_fN : Cond.fieldLinkNest "RanOut$Reader" 95 "RanOut" "UNIT_DAYS" "[I" "RanOut" ∈ lw_tbl := List.mem_of_getElem? (i := 764) (by decide +kernel)
theorem jk_ca : Cond.castable "[I" "java/lang/Cloneable" ∈ lw_tbl := List.mem_of_getElem? (i := 810) (by decide +kernel)
theorem jk_sm : Cond.sameMethod "[I" "java/lang/Object" "clone" "()Ljava/lang/Object;" ∈ lw_tbl := List.mem_of_getElem? (i := 806) (by decide +kernel)
theorem jk_el0 : ((flatC (Jvm.Cond.and given_1 narrow_1)).drop 45).take 174 = (List.range 174).map (fun j => Cond.eq (.elem (.field (.string "RanOut$Reader" 167) "java/lang/String" "value" "[B") (.int (Int32.ofNat j))) (.int (jk_wb.getD j 0))) := by decide +kernel
theorem jk_els (j : Nat) (hj : j < jk_wn) : Cond.eq (.elem (.field (.string "RanOut$Reader" 167) "java/lang/String" "value" "[B") (.int (Int32.ofNat j))) (.int (jk_wb.getD j 0)) ∈ flatC (Jvm.Cond.and given_1 narrow_1) := by
  refine List.mem_of_mem_drop (List.mem_of_mem_take (l := (flatC (Jvm.Cond.and given_1 narrow_1)).drop 45) (i := 174) ?_)
  rw [jk_el0]
  exact List.mem_map.mpr ⟨j, List.mem_range.mpr hj, rfl⟩
end
section
/-! ONE STEP OF THE MACHINE FOLLOWS ONE OF OURS -/
def mq_good (g : mq_GH) (T : mq_T) (p : Program) (l : Launch) (e : Env) (R : Room) (s : State) (mid : MethodId) (args : Array Value) (below : List Frame) (meth : Method) (c : Code) (Q : State → Prop) (n0 z0 nL pc : Nat) (L : mq_L) (st : List Value) (h : mq_H) : Prop :=
  n0 ≤ mq_N h → z0 ≤ mq_Z h → ∀ (H : Heap) (ls : Array Slot) (locs : List Loc), mq_rel g T h H → mq_ext g h s H → mq_lv g nL ls L → va_S (fun q : Nat => g.1 ≤ q) s.heap H locs → W p l e R s mid args below meth c H locs (mq_N h - n0) (mq_Z h - z0) Q (F0 mid pc ls (st.map (mq_cv g)))
def mq_ctx (g : mq_GH) (p : Program) (R : Room) (s : State) (mid : MethodId) (args : Array Value) (meth : Method) (c : Code) (y : MethodName) (bs : ByteArray) (nL : Nat) (ret : Option FieldType) (fr lo : Nat) : Prop :=
  p.tables.exec = Jvm.exec ∧ c.code = bs ∧ c.maxLocals = nL ∧ meth.sig.returnType = ret ∧ s.vm.findClass y.cls = some mid.cls ∧ (y.name = "<init>" → meth.name = "<init>") ∧ meth.locks = false ∧ fr ≤ R.frames ∧ lo ≤ R.locals ∧ (∀ w ∈ mq_gw, w.before args s = true) ∧ va_K g.2.2.1 mq_cl (mq_tys g) s ∧ (∀ w ∈ mq_nw, va_Nw w s) ∧ va_AO "RanOut$Law" s ∧ (va_AO "RanOut$Line" s ∧ mq_os g s) ∧ g.1 ≤ s.heap.size
section MQ1
variable {g : mq_GH} {T : mq_T} {p : Program} {l : Launch} {e : Env} {R : Room} {s : State} {mid : MethodId} {args : Array Value} {below : List Frame} {meth : Method} {c : Code} {Q : State → Prop} {n0 z0 nL : Nat}
variable {y : MethodName} {bs : ByteArray} {ret : Option FieldType} {fr lo : Nat} {pc pc' : Nat} {L : mq_L} {st st' r : List Value} {h h' : mq_H}
/-- heap and locals stay -/
theorem mq_good.sk (hw : ∀ (H : Heap) (ls : Array Slot) (locs : List Loc) (ce sl : Nat), mq_rel g T h H → mq_ext g h s H → mq_lv g nL ls L → va_S (fun q : Nat => g.1 ≤ q) s.heap H locs → W p l e R s mid args below meth c H locs ce sl Q (F0 mid pc' ls (st'.map (mq_cv g))) → W p l e R s mid args below meth c H locs ce sl Q (F0 mid pc ls (st.map (mq_cv g)))) (K : mq_good g T p l e R s mid args below meth c Q n0 z0 nL pc' L st' h) : mq_good g T p l e R s mid args below meth c Q n0 z0 nL pc L st h :=
  fun a b H ls locs h1 h2 h3 h4 => hw H ls locs _ _ h1 h2 h3 h4 (K a b H ls locs h1 h2 h3 h4)
/-- the locals change -/
theorem mq_good.lc {L' : mq_L} (hw : ∀ (H : Heap) (ls : Array Slot) (locs : List Loc) (ce sl : Nat), mq_lv g nL ls L → (∀ ls' : Array Slot, mq_lv g nL ls' L' → W p l e R s mid args below meth c H locs ce sl Q (F0 mid pc' ls' (st'.map (mq_cv g)))) → W p l e R s mid args below meth c H locs ce sl Q (F0 mid pc ls (st.map (mq_cv g)))) (K : mq_good g T p l e R s mid args below meth c Q n0 z0 nL pc' L' st' h) : mq_good g T p l e R s mid args below meth c Q n0 z0 nL pc L st h :=
  fun a b H ls locs h1 h2 h3 h4 => hw H ls locs _ _ h3 (fun ls' h3' => K a b H ls' locs h1 h2 h3' h4)
/-- one cell is written -/
theorem mq_good.pt {k : Nat} (hN : mq_N h' = mq_N h) (hZ : mq_Z h' = mq_Z h) (hs : ∀ j, mq_sh h' j = mq_sh h j) (ho : ∀ j, j ≠ k → mq_I h' j = mq_I h j ∧ mq_J h' j = mq_J h j ∧ mq_R h' j = mq_R h j) (hb : ∀ n j, (∀ j, mq_I h k j = 0 ∨ mq_I h k j = 1) → mq_sh h k = .inr (2, n) → mq_I h' k j = 0 ∨ mq_I h' k j = 1) (ht : (∀ j b, T.2 k j = some b → mq_R h k j = some b) → ∀ j b, T.2 k j = some b → mq_R h' k j = some b)
    (hw : ∀ (H : Heap) (ls : Array Slot) (locs : List Loc) (ce sl : Nat), mq_rel g T h H → mq_ext g h s H → mq_lv g nL ls L → va_S (fun q : Nat => g.1 ≤ q) s.heap H locs → (∀ (H1 : Heap) (locs1 : List Loc), 4 ≤ k → H1.size = H.size → (∀ q, q ≠ mq_ad g k → H1[q]? = H[q]?) → mq_cell g h' k H1 → va_S (fun q : Nat => g.1 ≤ q) s.heap H1 locs1 → W p l e R s mid args below meth c H1 locs1 ce sl Q (F0 mid pc' ls (st'.map (mq_cv g)))) → W p l e R s mid args below meth c H locs ce sl Q (F0 mid pc ls (st.map (mq_cv g))))
    (K : mq_good g T p l e R s mid args below meth c Q n0 z0 nL pc' L st' h') : mq_good g T p l e R s mid args below meth c Q n0 z0 nL pc L st h := by
  intro a b H ls locs h1 h2 h3 h4
  refine hw H ls locs _ _ h1 h2 h3 h4 (fun H1 locs1 hk hz oq hc hS1 => ?_)
  rw [← hN, ← hZ]
  have hx : ∀ k', k' < 4 → H1[g.2.1 k']? = H[g.2.1 k']? := fun k' hk' => oq _ (fun e => by have := h1.2.2.1 k' hk'; have := mq_ad_ge (g := g) hk; omega)
  exact K (by rw [hN]; exact a) (by rw [hZ]; exact b) H1 ls _ (h1.put hk hN hs ho hc hz oq (fun n j e => hb n j (fun j => h1.2.2.2.2.2.2.1 k n j e) e) (ht (fun j b e => (h1.2.2.2.2.2.2.2.2 k j b e).1))) (h2.kept (fun k' _ => hs k') (fun k' n hk' _ => (ho k' (by omega)).1) hx) h3 hS1
/-! pushing, arithmetic, branching -/
theorem sd_ldI {a : Nat} {x : Int32} (hld : mq_ld L a = some (.int x)) (hw : ∀ (H : Heap) (ls : Array Slot) (locs : List Loc) (ce sl : Nat), ls[a]? = some (.val (.int x)) → W p l e R s mid args below meth c H locs ce sl Q (F0 mid pc' ls (Value.int x :: st.map (mq_cv g))) → W p l e R s mid args below meth c H locs ce sl Q (F0 mid pc ls (st.map (mq_cv g)))) (K : mq_good g T p l e R s mid args below meth c Q n0 z0 nL pc' L (.int x :: st) h) : mq_good g T p l e R s mid args below meth c Q n0 z0 nL pc L st h :=
  mq_good.sk (st' := .int x :: st) (fun H ls locs ce sl _ _ h3 _ k => hw H ls locs ce sl (h3.2.2 a _ (mq_ld_get hld)) k) K
theorem sd_ldJ {a : Nat} {x : Int64} (hld : mq_ld L a = some (.long x)) (hw : ∀ (H : Heap) (ls : Array Slot) (locs : List Loc) (ce sl : Nat), ls[a]? = some (.val (.long x)) → W p l e R s mid args below meth c H locs ce sl Q (F0 mid pc' ls (Value.long x :: st.map (mq_cv g))) → W p l e R s mid args below meth c H locs ce sl Q (F0 mid pc ls (st.map (mq_cv g)))) (K : mq_good g T p l e R s mid args below meth c Q n0 z0 nL pc' L (.long x :: st) h) : mq_good g T p l e R s mid args below meth c Q n0 z0 nL pc L st h :=
  mq_good.sk (st' := .long x :: st) (fun H ls locs ce sl _ _ h3 _ k => hw H ls locs ce sl (h3.2.2 a _ (mq_ld_get hld)) k) K
theorem sd_ldA {a : Nat} {v : Value} (hld : mq_ld L a = some v) (hw : ∀ (H : Heap) (ls : Array Slot) (locs : List Loc) (ce sl : Nat), ls[a]? = some (.val (mq_cv g v)) → W p l e R s mid args below meth c H locs ce sl Q (F0 mid pc' ls (mq_cv g v :: st.map (mq_cv g))) → W p l e R s mid args below meth c H locs ce sl Q (F0 mid pc ls (st.map (mq_cv g)))) (K : mq_good g T p l e R s mid args below meth c Q n0 z0 nL pc' L (v :: st) h) : mq_good g T p l e R s mid args below meth c Q n0 z0 nL pc L st h :=
  mq_good.sk (st' := v :: st) (fun H ls locs ce sl _ _ h3 _ k => hw H ls locs ce sl (h3.2.2 a _ (mq_ld_get hld)) k) K
theorem sd_st1 {i : Nat} {v : Value} (hw : ∀ (H : Heap) (ls : Array Slot) (locs : List Loc) (ce sl : Nat) (lv : List (Nat × Value)), lv_has ls nL lv → (∀ ls' : Array Slot, lv_has ls' nL ((i, mq_cv g v) :: lv.filter (fun q => !(q.1 == i) && !(q.1 + 1 == i && q.2.category == 2))) → W p l e R s mid args below meth c H locs ce sl Q (F0 mid pc' ls' (r.map (mq_cv g)))) → W p l e R s mid args below meth c H locs ce sl Q (F0 mid pc ls (st.map (mq_cv g)))) (K : mq_good g T p l e R s mid args below meth c Q n0 z0 nL pc' (mq_sv L i v) r h) : mq_good g T p l e R s mid args below meth c Q n0 z0 nL pc L st h :=
  mq_good.lc (L' := mq_sv L i v) (fun H ls locs ce sl h3 k => hw H ls locs ce sl _ h3.has (fun ls' h' => k ls' (mq_lv.st1 h'))) K
theorem sd_st2 {i : Nat} {v : Value} (hw : ∀ (H : Heap) (ls : Array Slot) (locs : List Loc) (ce sl : Nat) (lv : List (Nat × Value)), lv_has ls nL lv → (∀ ls' : Array Slot, lv_has ls' nL ((i, mq_cv g v) :: lv.filter (fun q => !(q.1 == i) && (!(q.1 == i + 1) && !(q.1 + 1 == i && q.2.category == 2)))) → W p l e R s mid args below meth c H locs ce sl Q (F0 mid pc' ls' (r.map (mq_cv g)))) → W p l e R s mid args below meth c H locs ce sl Q (F0 mid pc ls (st.map (mq_cv g)))) (K : mq_good g T p l e R s mid args below meth c Q n0 z0 nL pc' ((mq_sv L i v).set (i + 1) none) r h) : mq_good g T p l e R s mid args below meth c Q n0 z0 nL pc L st h :=
  mq_good.lc (L' := (mq_sv L i v).set (i + 1) none) (fun H ls locs ce sl h3 k => hw H ls locs ce sl _ h3.has (fun ls' h' => k ls' (mq_lv.st2 h'))) K
theorem sd_iinc {i : Nat} {n : Int} {x k : Int32} (hx : p.tables.exec = Jvm.exec) (hb : c.code = bs) (hd : decode bs pc = .ok (.iinc i n, 3)) (hi : i < nL) (hk : Int32.ofInt n = k) (hld : mq_ld L i = some (.int x)) (K : mq_good g T p l e R s mid args below meth c Q n0 z0 nL (pc + 3) (mq_sv L i (.int (x + k))) st h) : mq_good g T p l e R s mid args below meth c Q n0 z0 nL pc L st h := by
  refine mq_good.lc (L' := mq_sv L i (.int (x + k))) (fun H ls locs ce sl h3 kk => ?_) K
  obtain ⟨q, hq⟩ := List.getElem?_of_mem (mq_pr_mem (g := g) (mq_ld_get hld))
  exact lv_iinc (v := x + k) hx hb hd h3.has (k := q) hq (by rw [hk]) hi rfl (fun ls' h' => kk ls' (mq_lv.st1 (v := .int (x + k)) h'))
theorem sd_br {o : Jvm.ClassFile.Cond} {off : Int} {x z : Int32} {t : Nat} (hx : p.tables.exec = Jvm.exec) (hb : c.code = bs) (hd : decode bs pc = .ok (.if_icmp o off, 3)) (ht : (pc : Int) + off = (t : Int)) (K : mq_good g T p l e R s mid args below meth c Q n0 z0 nL (bif mq_cmp o x z then t else pc + 3) L r h) : mq_good g T p l e R s mid args below meth c Q n0 z0 nL pc L (.int z :: .int x :: r) h := by
  refine mq_good.sk (fun H ls locs ce sl _ _ _ _ k => ?_) K
  have kt : mq_cmp o x z = true → W p l e R s mid args below meth c H locs ce sl Q (F0 mid t ls (r.map (mq_cv g))) := fun q => by rw [q] at k; exact k
  have kf : mq_cmp o x z = false → W p l e R s mid args below meth c H locs ce sl Q (F0 mid (pc + 3) ls (r.map (mq_cv g))) := fun q => by rw [q] at k; exact k
  cases o
  · exact lv_icmp_eq hx hb hd ht (fun q => kt (by simp [mq_cmp, q])) (fun q => kf (by simp [mq_cmp, q]))
  · exact lv_icmp_ne hx hb hd ht (fun q => kt (by simp [mq_cmp]; exact q)) (fun q => kf (by simp [mq_cmp]; first | exact q | exact Classical.not_not.mp q))
  · exact lv_icmp_lt hx hb hd ht (fun q => kt (by simp [mq_cmp, q])) (fun q => kf (by simp only [mq_cmp, decide_eq_false_iff_not]; exact q))
  · exact lv_icmp_ge hx hb hd ht (fun q => kt (by simp [mq_cmp, q])) (fun q => kf (by simp only [mq_cmp, decide_eq_false_iff_not]; exact q))
  · exact lv_icmp_gt hx hb hd ht (fun q => kt (by simp [mq_cmp, q])) (fun q => kf (by simp only [mq_cmp, decide_eq_false_iff_not]; exact q))
  · exact lv_icmp_le hx hb hd ht (fun q => kt (by simp [mq_cmp, q])) (fun q => kf (by simp only [mq_cmp, decide_eq_false_iff_not]; exact q))
theorem sd_b0 {o : Jvm.ClassFile.Cond} {off : Int} {x : Int32} {t : Nat} (hx : p.tables.exec = Jvm.exec) (hb : c.code = bs) (hd : decode bs pc = .ok (.ifCond o off, 3)) (ht : (pc : Int) + off = (t : Int)) (K : mq_good g T p l e R s mid args below meth c Q n0 z0 nL (bif mq_cmp o x 0 then t else pc + 3) L r h) : mq_good g T p l e R s mid args below meth c Q n0 z0 nL pc L (.int x :: r) h := by
  refine mq_good.sk (fun H ls locs ce sl _ _ _ _ k => ?_) K
  have kt : mq_cmp o x 0 = true → W p l e R s mid args below meth c H locs ce sl Q (F0 mid t ls (r.map (mq_cv g))) := fun q => by rw [q] at k; exact k
  have kf : mq_cmp o x 0 = false → W p l e R s mid args below meth c H locs ce sl Q (F0 mid (pc + 3) ls (r.map (mq_cv g))) := fun q => by rw [q] at k; exact k
  cases o
  · exact lv_if_eq hx hb hd ht (fun q => kt (by simp [mq_cmp, q])) (fun q => kf (by simp [mq_cmp, q]))
  · exact lv_if_ne hx hb hd ht (fun q => kt (by simp [mq_cmp]; exact q)) (fun q => kf (by simp [mq_cmp]; first | exact q | exact Classical.not_not.mp q))
  · exact lv_if_lt hx hb hd ht (fun q => kt (by simp only [mq_cmp, decide_eq_true_eq]; exact q)) (fun q => kf (by simp only [mq_cmp, decide_eq_false_iff_not]; exact q))
  · exact lv_if_ge hx hb hd ht (fun q => kt (by simp only [mq_cmp, decide_eq_true_eq]; exact q)) (fun q => kf (by simp only [mq_cmp, decide_eq_false_iff_not]; exact q))
  · exact lv_if_gt hx hb hd ht (fun q => kt (by simp only [mq_cmp, decide_eq_true_eq]; exact q)) (fun q => kf (by simp only [mq_cmp, decide_eq_false_iff_not]; exact q))
  · exact lv_if_le hx hb hd ht (fun q => kt (by simp only [mq_cmp, decide_eq_true_eq]; exact q)) (fun q => kf (by simp only [mq_cmp, decide_eq_false_iff_not]; exact q))
theorem sd_lsw {d : Int} {ps : Array (Int × Int)} {len : Nat} {x : Int32} {a : Nat} (hx : p.tables.exec = Jvm.exec) (hb : c.code = bs) (hd : decode bs pc = .ok (.lookupswitch d ps, len)) (ha : (pc : Int) + d = (a : Int)) (h1 : mq_okS pc (ps.toList.map (·.2)) = true) (h2 : ps.toList.all (fun q => decide ((Int32.ofInt q.1).toInt = q.1)) = true) (h3 : (ps.toList.zip (ps.toList.drop 1)).all (fun (a, next) => a.1 < next.1) = true) (K : mq_good g T p l e R s mid args below meth c Q n0 z0 nL (mq_find x (mq_sw ps.toList pc) a) L r h) : mq_good g T p l e R s mid args below meth c Q n0 z0 nL pc L (.int x :: r) h := by
  refine mq_good.sk (fun H ls locs ce sl _ _ _ _ k => ?_) K
  have key : ∀ l : List (Int × Int), mq_okS pc (l.map (·.2)) = true → l.all (fun q => decide ((Int32.ofInt q.1).toInt = q.1)) = true → (pc : Int) + Op.lookupswitch.offset l d x.toInt = ((mq_find x (mq_sw l pc) a : Nat) : Int) := by
    intro l
    induction l with
    | nil => intro _ _; exact ha
    | cons q l ih =>
      obtain ⟨u, o⟩ := q
      intro e1 e2
      simp only [List.map_cons, mq_okS, Bool.and_eq_true, decide_eq_true_eq] at e1
      simp only [List.all_cons, Bool.and_eq_true, decide_eq_true_eq] at e2
      rw [Op.lookupswitch.offset_cons]
      by_cases q : x = Int32.ofInt u
      · have q2 : u = x.toInt := by rw [q, e2.1]
        simp only [mq_sw, mq_find]
        rw [if_pos (by first | exact q2 | exact q2.symm), decide_eq_true q]
        exact e1.1.symm
      · have q2 : ¬ u = x.toInt := fun z => q (Int32.toInt_inj.mp (by rw [e2.1]; exact z.symm))
        simp only [mq_sw, mq_find]
        rw [if_neg (by first | exact q2 | exact fun z => q2 z.symm), decide_eq_false q]
        exact ih e1.2 e2.2
  exact lv_lookup hx hb hd h3 rfl (key _ h1 h2) k
theorem sd_tsw {d lo' hi' : Int} {offs : Array Int} {len : Nat} {x : Int32} {a : Nat} (hx : p.tables.exec = Jvm.exec) (hb : c.code = bs) (hd : decode bs pc = .ok (.tableswitch d lo' hi' offs, len)) (ha : (pc : Int) + d = (a : Int)) (h1 : mq_okS pc offs.toList = true) (h2 : 0 ≤ lo' ∧ hi' + 1 = lo' + (offs.toList.length : Int) ∧ lo' + (offs.toList.length : Int) < 2000) (K : mq_good g T p l e R s mid args below meth c Q n0 z0 nL (mq_find x (mq_tsw offs.toList lo' pc) a) L r h) : mq_good g T p l e R s mid args below meth c Q n0 z0 nL pc L (.int x :: r) h := by
  refine mq_good.sk (fun H ls locs ce sl _ _ _ _ k => ?_) K
  obtain ⟨h0, h3, h4⟩ := h2
  obtain ⟨b0, rfl⟩ := Int.eq_ofNat_of_zero_le h0
  have key : ∀ (l : List Int) (b : Nat), b + l.length < 2000 → mq_okS pc l = true → (x.toInt < (b : Int) ∨ ((b + l.length : Nat) : Int) ≤ x.toInt → mq_find x (mq_tsw l (b : Int) pc) a = a) ∧ (∀ o, (b : Int) ≤ x.toInt → l[(x.toInt - (b : Int)).toNat]? = some o → (pc : Int) + o = ((mq_find x (mq_tsw l (b : Int) pc) a : Nat) : Int)) := by
    intro l
    induction l with
    | nil => intro b _ _; exact ⟨fun _ => rfl, fun o _ e => by simp at e⟩
    | cons o l ih =>
      intro b hb e1
      simp only [mq_okS, Bool.and_eq_true, decide_eq_true_eq] at e1
      simp only [List.length_cons] at hb
      have hi := ih (b + 1) (by omega) e1.2
      have eb : (Int32.ofInt (b : Int)).toInt = (b : Int) := by
        rw [Int32.toInt_ofInt, Int.bmod_eq_of_le] <;> (first | omega | (simp only [Int32.size]; omega))
      have e2 : ((b + 1 : Nat) : Int) = (b : Int) + 1 := by omega
      rw [e2] at hi
      by_cases q : x = Int32.ofInt (b : Int)
      · have qx : x.toInt = (b : Int) := by rw [q, eb]
        simp only [mq_tsw, mq_find]
        rw [decide_eq_true q]
        refine ⟨fun z => ?_, fun o' _ z => ?_⟩
        · simp only [List.length_cons] at z
          omega
        · rw [qx, Int.sub_self] at z
          simp at z
          subst z
          exact e1.1.symm
      · have qx : ¬ x.toInt = (b : Int) := fun z => q (Int32.toInt_inj.mp (by rw [eb]; exact z))
        simp only [mq_tsw, mq_find]
        rw [decide_eq_false q]
        refine ⟨fun z => hi.1 ?_, fun o' z1 z => hi.2 o' (by omega) ?_⟩
        · simp only [List.length_cons] at z
          omega
        · rw [show (x.toInt - (b : Int)).toNat = (x.toInt - ((b : Int) + 1)).toNat + 1 by omega] at z
          simpa using z
  have hk := key offs.toList b0 (by omega) h1
  by_cases q : x.toInt < (b0 : Int) ∨ hi' < x.toInt
  · refine lv_tableOut (tgt := mq_find x (mq_tsw offs.toList (b0 : Int) pc) a) hx hb hd q ?_ k
    have := hk.1 (by rcases q with q | q <;> omega)
    rw [this]
    exact ha
  · have q1 : ¬ x.toInt < (b0 : Int) := fun z => q (Or.inl z)
    have q2 : ¬ hi' < x.toInt := fun z => q (Or.inr z)
    have hlt : (x.toInt - (b0 : Int)).toNat < offs.toList.length := by omega
    have hg : offs[(x.toInt - (b0 : Int)).toNat]? = some (offs.toList[(x.toInt - (b0 : Int)).toNat]) := by
      rw [← Array.getElem?_toList]
      exact List.getElem?_eq_getElem hlt
    refine lv_tableIn (tgt := mq_find x (mq_tsw offs.toList (b0 : Int) pc) a) hx hb hd q1 q2 hg ?_ k
    exact hk.2 _ (by omega) (List.getElem?_eq_getElem hlt)
end MQ1
end
section
/-! FIELDS, ARRAYS, NEW CELLS -/
section MQ2
variable {g : mq_GH} {T : mq_T} {p : Program} {l : Launch} {e : Env} {R : Room} {s : State} {mid : MethodId} {args : Array Value} {below : List Frame} {meth : Method} {c : Code} {Q : State → Prop} {n0 z0 nL : Nat}
variable {y : MethodName} {bs : ByteArray} {ret : Option FieldType} {fr lo : Nat} {pc pc' : Nat} {L : mq_L} {st st' r : List Value} {h h' : mq_H}
theorem mq_P1 {D : va_G} {cl : List vw_C} {q : Nat × va_E} {H : Heap} (h : va_at D cl q H) : va_P D cl [q] H := by
  intro k x hk
  cases k with
  | zero => cases hk; exact h
  | succ k => simp at hk
theorem sd_gf {i ci k a : Nat} {v w : Value} {q : vw_C} (C : mq_ctx g p R s mid args meth c y bs nL ret fr lo) (hd : decode bs pc = .ok (.getfield i, 3)) (hq : mq_cl[ci]? = some q) (hk : k < q.2.2) (hlink : Cond.fieldLink y.cls i (q.2.1 k).1 (q.2.1 k).2.1 (q.2.1 k).2.2.1 ∈ mq_gw) (hs : mq_sh h a = .inl ci) (hv : mq_cv g v = .ref (mq_ad g a)) (hw : mq_cv g w = mq_fv g h a ci k) (K : mq_good g T p l e R s mid args below meth c Q n0 z0 nL (pc + 3) L (w :: r) h) : mq_good g T p l e R s mid args below meth c Q n0 z0 nL pc L (v :: r) h := by
  obtain ⟨hx, hb, hml, hr, hown, hnm, hlk, hfr, hlo, hts, hK, -⟩ := C
  refine mq_good.sk (fun H ls locs ce sl h1 _ _ _ kk => ?_) K
  obtain ⟨-, q', hq', cell, q1, q2, q3, q4⟩ := h1.obj hs
  cases hq.symm.trans hq'
  obtain ⟨hS, hfc, kC, hkC, hkind⟩ := hK.1 ci _ hq
  obtain ⟨cf, kf, fi, f, hi, hsl⟩ := hS k hk
  simp only [List.map_cons, hv] at *
  refine W.getf hx hb hown (hts _ hlink) hi (u_facts hfc hkC (u_lays hts (mq_cls hq).1 hk) hi).1 q1 (by rw [q3]; exact fun h => by cases h) (v := mq_cv g w) ?_ rfl rfl hd kk
  rw [hsl, q4 k hk, hw]
theorem sd_pf {i ci k a : Nat} {v x : Value} {q : vw_C} (C : mq_ctx g p R s mid args meth c y bs nL ret fr lo) (hd : decode bs pc = .ok (.putfield i, 3)) (hq : mq_cl[ci]? = some q) (hk : k < q.2.2) (hlink : Cond.fieldLink y.cls i (q.2.1 k).1 (q.2.1 k).2.1 (q.2.1 k).2.2.1 ∈ mq_gw) (hfin : (q.2.1 k).2.2.2 = false ∨ (y.name = "<init>" ∧ (q.2.1 k).1 = y.cls)) (hs : mq_sh h a = .inl ci) (hv : mq_cv g v = .ref (mq_ad g a)) (hn : narrow (mq_fty ci k) (mq_cv g x) = mq_cv g x) (hfit : fits (mq_fty ci k) (mq_cv g x) = true)
    (hN : mq_N h' = mq_N h) (hZ : mq_Z h' = mq_Z h) (hsh : ∀ j, mq_sh h' j = mq_sh h j) (ho : ∀ j, j ≠ a → mq_I h' j = mq_I h j ∧ mq_J h' j = mq_J h j ∧ mq_R h' j = mq_R h j) (hnew : ∀ j, mq_fv g h' a ci j = updV (fun j => mq_fv g h a ci j) k (mq_cv g x) j) (ht : (∀ j b, T.2 a j = some b → mq_R h a j = some b) → ∀ j b, T.2 a j = some b → mq_R h' a j = some b) (K : mq_good g T p l e R s mid args below meth c Q n0 z0 nL (pc + 3) L r h') : mq_good g T p l e R s mid args below meth c Q n0 z0 nL pc L (x :: v :: r) h := by
  obtain ⟨hx, hb, hml, hr, hown, hnm, hlk, hfr, hlo, hts, hK, -⟩ := C
  refine mq_good.pt (k := a) hN hZ hsh ho (fun n j _ e' => by rw [hs] at e'; cases e') ht (fun H ls locs ce sl h1 _ _ hSv kk => ?_) K
  obtain ⟨h4, q', hq', cell, q1, q2, q3, q4⟩ := h1.obj hs
  cases hq.symm.trans hq'
  obtain ⟨hin, hty, hnames, -⟩ := mq_cls hq
  have hap := va_apart (own := y.cls) hts hin (mq_fty ci) hty hnames hK hq
  obtain ⟨hS, hfc, kC, hkC, hkind⟩ := hK.1 ci _ hq
  obtain ⟨cf, kf, fi, f, hi, hsl⟩ := hS k hk
  have hlay := hts _ (hin _ (u_in_lay hk))
  have hst := (u_facts hfc hkC (u_lays hts hin hk) hi).1
  simp only [List.map_cons, hv]
  have fin : ∀ H1 : Heap, H1[mq_ad g a]? = some (cell.setSlot (g.2.2.1.2 ci k) (mq_cv g x)) → mq_cell g h' a H1 := by
    intro H1 e1
    unfold mq_cell
    rw [hsh, hs]
    exact ⟨_, hq, t_OB.to (V := updV (fun j => mq_fv g h a ci j) k (mq_cv g x)) ⟨_, e1, q2, q3, t_set q4 hap hk (mq_cv g x)⟩ (fun j _ => (hnew j).symm)⟩
  unfold u_lay at hlay
  by_cases hf : (q.2.1 k).2.2.2 = true
  · rw [if_pos hf] at hlay
    rcases hfin with hfin | hfin
    · rw [hfin] at hf; cases hf
    have hcf : mid.cls = cf := by
      obtain ⟨_, _, c', _, _, _, -, -, hf', -, -, -, hown2, -⟩ := Cond.laysFinal_spec hlay
      have e1 : c' = cf := by have := hi.symm.trans hf'; simp at this; exact this.1.symm
      rw [hfin.2] at hown2
      rw [← e1]; exact Option.some.inj (hown.symm.trans hown2)
    have h6 := u_fits hfc hkC hkind (Or.inr hlay) hi (hty k hk) hn hfit
    refine W.putFinK hx hb hown (hts _ hlink) hi hst hcf (hnm hfin.1) (by rw [q2]; exact h6) q1 q3 (by rw [hsl]; exact k2_hasslot (q4 k hk)) rfl rfl hd fun H' e1 e2 e3 => ?_
    rw [hsl] at e1 ⊢
    exact kk H' _ h4 e2 e3 (fin H' e1) (hSv.put e2 e3 (mq_ad_ge h4))
  · rw [if_neg hf] at hlay
    have h6 := u_store hfc hkC hkind hlay hi (hty k hk) hn hfit
    refine W.putK hx hb (f := f) ⟨hown, hts _ hlink, ⟨_, _, _, hi⟩, hst⟩ (by rw [q2]; exact h6) q1 q3 (by rw [hsl]; exact k2_hasslot (q4 k hk)) rfl rfl hd fun H' e1 e2 e3 => ?_
    rw [hsl] at e1 ⊢
    exact kk H' _ h4 e2 e3 (fin H' e1) (hSv.put e2 e3 (mq_ad_ge h4))
theorem sd_iald {a n : Nat} {i : Int32} {v : Value} (C : mq_ctx g p R s mid args meth c y bs nL ret fr lo) (hd : decode bs pc = .ok (.iaload, 1)) (hs : mq_sh h a = .inr (0, n)) (hv : mq_cv g v = .ref (mq_ad g a)) (hi : vp_in i n) (K : mq_good g T p l e R s mid args below meth c Q n0 z0 nL (pc + 1) L (.int (mq_I h a i.toNatClampNeg) :: r) h) : mq_good g T p l e R s mid args below meth c Q n0 z0 nL pc L (.int i :: v :: r) h := by
  obtain ⟨hx, hb, hml, hr, hown, hnm, hlk, hfr, hlo, hts, hK, -⟩ := C
  refine mq_good.sk (fun H ls locs ce sl h1 _ _ _ kk => ?_) K
  obtain ⟨-, -, hc⟩ := h1.arr hs (by decide)
  simp only [List.map_cons, hv] at *
  exact va_iald (D := g.2.2.1) (cl := mq_cl) hx hb hK (mq_P1 (q := (mq_ad g a, .inl (g.2.2.2 0, n, .inl (mq_I h a)))) hc) 0 0 rfl rfl hi hd kk
theorem sd_iaX {a n : Nat} {i : Int32} {v : Value} (C : mq_ctx g p R s mid args meth c y bs nL ret fr lo) (hd : decode bs pc = .ok (.iaload, 1)) (ha : a < 4) (hs : mq_sh h a = .inr (9, n)) (hv : mq_cv g v = .ref (mq_ad g a)) (hi : vp_in i n) (K : mq_good g T p l e R s mid args below meth c Q n0 z0 nL (pc + 1) L (.int (mq_I h a i.toNatClampNeg) :: r) h) : mq_good g T p l e R s mid args below meth c Q n0 z0 nL pc L (.int i :: v :: r) h := by
  obtain ⟨hx, hb, hml, hr, hown, hnm, hlk, hfr, hlo, hts, hK, -⟩ := C
  refine mq_good.sk (fun H ls locs ce sl h1 h2 _ _ kk => ?_) K
  obtain ⟨scr, q1, q2, q3, q4, q5⟩ := h2 a n ha hs
  have hlt : i.toNatClampNeg < n := Nat.not_le.mp fun q => hi (Or.inr q)
  have ead : mq_ad g a = g.2.1 a := by unfold mq_ad; rw [if_pos ha]
  simp only [List.map_cons, hv, ead] at *
  exact W.iald (v := .int (mq_I h a i.toNatClampNeg)) hx hb q1 q2 q3 (by rw [q4]; exact hi) (q5 _ hlt) rfl rfl hd kk
theorem sd_bald {a n ty : Nat} {i : Int32} {v : Value} (C : mq_ctx g p R s mid args meth c y bs nL ret fr lo) (hd : decode bs pc = .ok (.baload, 1)) (hty : ty = 1 ∨ ty = 2) (hs : mq_sh h a = .inr (ty, n)) (hv : mq_cv g v = .ref (mq_ad g a)) (hi : vp_in i n) (K : mq_good g T p l e R s mid args below meth c Q n0 z0 nL (pc + 1) L (.int (mq_I h a i.toNatClampNeg) :: r) h) : mq_good g T p l e R s mid args below meth c Q n0 z0 nL pc L (.int i :: v :: r) h := by
  obtain ⟨hx, hb, hml, hr, hown, hnm, hlk, hfr, hlo, hts, hK, -⟩ := C
  refine mq_good.sk (fun H ls locs ce sl h1 _ _ _ kk => ?_) K
  obtain ⟨-, -, hc⟩ := h1.arr hs (by rcases hty with rfl | rfl <;> decide)
  simp only [List.map_cons, hv] at *
  rcases hty with rfl | rfl
  · exact va_bald (D := g.2.2.1) (cl := mq_cl) hx hb hK (mq_P1 (q := (mq_ad g a, .inl (g.2.2.2 1, n, .inl (mq_I h a)))) hc) 0 1 rfl rfl hi hd kk
  · exact va_zald (D := g.2.2.1) (cl := mq_cl) hx hb hK (mq_P1 (q := (mq_ad g a, .inl (g.2.2.2 2, n, .inl (mq_I h a)))) hc) 0 2 rfl rfl hi hd kk
theorem sd_lald {a n : Nat} {i : Int32} {v : Value} (C : mq_ctx g p R s mid args meth c y bs nL ret fr lo) (hd : decode bs pc = .ok (.laload, 1)) (hs : mq_sh h a = .inr (3, n)) (hv : mq_cv g v = .ref (mq_ad g a)) (hi : vp_in i n) (K : mq_good g T p l e R s mid args below meth c Q n0 z0 nL (pc + 1) L (.long (mq_J h a i.toNatClampNeg) :: r) h) : mq_good g T p l e R s mid args below meth c Q n0 z0 nL pc L (.int i :: v :: r) h := by
  obtain ⟨hx, hb, hml, hr, hown, hnm, hlk, hfr, hlo, hts, hK, -⟩ := C
  refine mq_good.sk (fun H ls locs ce sl h1 _ _ _ kk => ?_) K
  obtain ⟨-, -, hc⟩ := h1.arr hs (by decide)
  simp only [List.map_cons, hv] at *
  exact va_lald (D := g.2.2.1) (cl := mq_cl) hx hb hK (mq_P1 (q := (mq_ad g a, .inl (g.2.2.2 3, n, .inr (.inl (mq_J h a))))) hc) 0 3 rfl rfl hi hd kk
theorem mq_pv_cv (o : Option Nat) : mq_cv g (mq_pv o) = va_rf (o.map (mq_ad g)) := by cases o <;> rfl
theorem sd_aald {a n ty : Nat} {i : Int32} {v : Value} (C : mq_ctx g p R s mid args meth c y bs nL ret fr lo) (hd : decode bs pc = .ok (.aaload, 1)) (hty : ty = 4 ∨ ty = 5) (hs : mq_sh h a = .inr (ty, n)) (hv : mq_cv g v = .ref (mq_ad g a)) (hi : vp_in i n) (K : mq_good g T p l e R s mid args below meth c Q n0 z0 nL (pc + 1) L (mq_pv (mq_R h a i.toNatClampNeg) :: r) h) : mq_good g T p l e R s mid args below meth c Q n0 z0 nL pc L (.int i :: v :: r) h := by
  obtain ⟨hx, hb, hml, hr, hown, hnm, hlk, hfr, hlo, hts, hK, -⟩ := C
  refine mq_good.sk (fun H ls locs ce sl h1 _ _ _ kk => ?_) K
  obtain ⟨-, -, hc⟩ := h1.arr hs (by rcases hty with rfl | rfl <;> decide)
  simp only [List.map_cons, hv, mq_pv_cv] at *
  rcases hty with rfl | rfl
  · exact va_aldq (D := g.2.2.1) (cl := mq_cl) hx hb hK (mq_P1 (q := (mq_ad g a, .inl (g.2.2.2 4, n, .inr (.inr (.inr (.inr (fun j => (mq_R h a j).map (mq_ad g)))))))) hc) 0 4 rfl rfl hi hd kk
  · exact va_aldq (D := g.2.2.1) (cl := mq_cl) hx hb hK (mq_P1 (q := (mq_ad g a, .inl (g.2.2.2 5, n, .inr (.inr (.inr (.inr (fun j => (mq_R h a j).map (mq_ad g)))))))) hc) 0 5 rfl rfl hi hd kk
/-! how the writers of the abstract heap change it -/
theorem mq_setI_self (h : mq_H) (a k : Nat) (v : Int32) : mq_I (mq_setI h a k v) a = upd (mq_I h a) k v := by
  funext j
  show (if a = a then (if j = k then v else mq_I h a j) else mq_I h a j) = if j = k then v else mq_I h a j
  rw [if_pos rfl]
theorem mq_setI_ne {h : mq_H} {a j : Nat} (hj : j ≠ a) (k : Nat) (v : Int32) : mq_I (mq_setI h a k v) j = mq_I h j := by
  funext i
  exact if_neg hj
theorem mq_setJ_self (h : mq_H) (a k : Nat) (v : Int64) : mq_J (mq_setJ h a k v) a = vp_updL (mq_J h a) k v := by
  funext j
  show (if a = a then (if j = k then v else mq_J h a j) else mq_J h a j) = if j = k then v else mq_J h a j
  rw [if_pos rfl]
theorem mq_setJ_ne {h : mq_H} {a j : Nat} (hj : j ≠ a) (k : Nat) (v : Int64) : mq_J (mq_setJ h a k v) j = mq_J h j := by
  funext i
  exact if_neg hj
theorem mq_setR_self (h : mq_H) (a k : Nat) (v : Option Nat) (j : Nat) : mq_R (mq_setR h a k v) a j = if j = k then v else mq_R h a j := by
  show (if a = a then (if j = k then v else mq_R h a j) else mq_R h a j) = if j = k then v else mq_R h a j
  rw [if_pos rfl]
theorem mq_setR_ne {h : mq_H} {a j : Nat} (hj : j ≠ a) (k : Nat) (v : Option Nat) : mq_R (mq_setR h a k v) j = mq_R h j := by
  funext i
  exact if_neg hj
theorem sd_iast {a n : Nat} {i x : Int32} {v : Value} (C : mq_ctx g p R s mid args meth c y bs nL ret fr lo) (hd : decode bs pc = .ok (.iastore, 1)) (hs : mq_sh h a = .inr (0, n)) (hv : mq_cv g v = .ref (mq_ad g a)) (hi : vp_in i n) (K : mq_good g T p l e R s mid args below meth c Q n0 z0 nL (pc + 1) L r (mq_setI h a i.toNatClampNeg x)) : mq_good g T p l e R s mid args below meth c Q n0 z0 nL pc L (.int x :: .int i :: v :: r) h := by
  obtain ⟨hx, hb, hml, hr, hown, hnm, hlk, hfr, hlo, hts, hK, -⟩ := C
  refine mq_good.pt (h' := mq_setI h a i.toNatClampNeg x) (k := a) rfl rfl (fun _ => rfl) (fun j hj => ⟨mq_setI_ne hj _ _, rfl, rfl⟩) (fun n' j _ e' => by rw [hs] at e'; cases e') (fun q => q) (fun H ls locs ce sl h1 _ _ hSv kk => ?_) K
  obtain ⟨h4, -, hc⟩ := h1.arr hs (by decide)
  simp only [List.map_cons, hv]
  refine W.iast hx hb hc ((hK.2 0 _ rfl).1 n (fun j => .int (mq_I h a j))) (fun q => by cases q) (by show ¬ (i < 0 ∨ (arrV _ _ _).slots.size ≤ _); rw [arrV_size]; exact hi) rfl rfl hd fun H1 e z oq => ?_
  refine kk H1 _ h4 z oq ?_ (hSv.put z oq (mq_ad_ge h4))
  unfold mq_cell
  rw [show mq_sh (mq_setI h a i.toNatClampNeg x) a = .inr (0, n) from hs]
  refine ⟨by decide, ?_⟩
  rw [e]
  show some ((arrV (g.2.2.2 0) n (fun j => .int (mq_I h a j))).setSlot _ _) = some (arrV (g.2.2.2 0) n (fun j => .int (mq_I (mq_setI h a i.toNatClampNeg x) a j)))
  rw [arrV_store, mq_setI_self]
  congr 2
  funext q
  by_cases hq : q = i.toNatClampNeg
  · subst hq
    simp [updV, upd]
  · simp [updV, upd, hq]
theorem sd_bast1 {a n : Nat} {i x : Int32} {v : Value} (C : mq_ctx g p R s mid args meth c y bs nL ret fr lo) (hd : decode bs pc = .ok (.bastore, 1)) (hs : mq_sh h a = .inr (1, n)) (hv : mq_cv g v = .ref (mq_ad g a)) (hi : vp_in i n) (K : mq_good g T p l e R s mid args below meth c Q n0 z0 nL (pc + 1) L r (mq_setI h a i.toNatClampNeg x.toInt8.toInt32)) : mq_good g T p l e R s mid args below meth c Q n0 z0 nL pc L (.int x :: .int i :: v :: r) h := by
  obtain ⟨hx, hb, hml, hr, hown, hnm, hlk, hfr, hlo, hts, hK, -⟩ := C
  refine mq_good.pt (h' := mq_setI h a i.toNatClampNeg x.toInt8.toInt32) (k := a) rfl rfl (fun _ => rfl) (fun j hj => ⟨mq_setI_ne hj _ _, rfl, rfl⟩) (fun n' j _ e' => by rw [hs] at e'; cases e') (fun q => q) (fun H ls locs ce sl h1 _ _ hSv kk => ?_) K
  obtain ⟨h4, -, hc⟩ := h1.arr hs (by decide)
  simp only [List.map_cons, hv]
  refine W.bast hx hb hc ((hK.2 1 _ rfl).1 n (fun j => .int (mq_I h a j))) (fun q => by cases q) (by show ¬ (i < 0 ∨ (arrV _ _ _).slots.size ≤ _); rw [arrV_size]; exact hi) rfl rfl hd fun H1 e z oq => ?_
  refine kk H1 _ h4 z oq ?_ (hSv.put z oq (mq_ad_ge h4))
  unfold mq_cell
  rw [show mq_sh (mq_setI h a i.toNatClampNeg x.toInt8.toInt32) a = .inr (1, n) from hs]
  refine ⟨by decide, ?_⟩
  rw [e]
  show some ((arrV (g.2.2.2 1) n (fun j => .int (mq_I h a j))).setSlot _ _) = some (arrV (g.2.2.2 1) n (fun j => .int (mq_I (mq_setI h a i.toNatClampNeg x.toInt8.toInt32) a j)))
  rw [arrV_store, mq_setI_self]
  congr 2
  funext q
  by_cases hq : q = i.toNatClampNeg
  · subst hq
    simp [updV, upd]
    try rfl
  · simp [updV, upd, hq]
theorem sd_bast2 {a n : Nat} {i x : Int32} {v : Value} (C : mq_ctx g p R s mid args meth c y bs nL ret fr lo) (hd : decode bs pc = .ok (.bastore, 1)) (hs : mq_sh h a = .inr (2, n)) (hv : mq_cv g v = .ref (mq_ad g a)) (hi : vp_in i n) (hx01 : x = 0 ∨ x = 1) (K : mq_good g T p l e R s mid args below meth c Q n0 z0 nL (pc + 1) L r (mq_setI h a i.toNatClampNeg x)) : mq_good g T p l e R s mid args below meth c Q n0 z0 nL pc L (.int x :: .int i :: v :: r) h := by
  obtain ⟨hx, hb, hml, hr, hown, hnm, hlk, hfr, hlo, hts, hK, -⟩ := C
  refine mq_good.pt (h' := mq_setI h a i.toNatClampNeg x) (k := a) rfl rfl (fun _ => rfl) (fun j hj => ⟨mq_setI_ne hj _ _, rfl, rfl⟩) (fun n' j hall _ => ?_) (fun q => q) (fun H ls locs ce sl h1 _ _ hSv kk => ?_) K
  · rw [mq_setI_self]
    unfold upd
    split
    · exact hx01
    · exact hall j
  obtain ⟨h4, -, hc⟩ := h1.arr hs (by decide)
  simp only [List.map_cons, hv]
  refine W.zast hx hb hc ((hK.2 2 _ rfl).1 n (fun j => .int (mq_I h a j))) (fun q => by cases q) (by show ¬ (i < 0 ∨ (arrV _ _ _).slots.size ≤ _); rw [arrV_size]; exact hi) rfl rfl hd fun H1 e z oq => ?_
  refine kk H1 _ h4 z oq ?_ (hSv.put z oq (mq_ad_ge h4))
  unfold mq_cell
  rw [show mq_sh (mq_setI h a i.toNatClampNeg x) a = .inr (2, n) from hs]
  refine ⟨by decide, ?_⟩
  rw [e]
  show some ((arrV (g.2.2.2 2) n (fun j => .int (mq_I h a j))).setSlot _ _) = some (arrV (g.2.2.2 2) n (fun j => .int (mq_I (mq_setI h a i.toNatClampNeg x) a j)))
  rw [arrV_store, mq_setI_self]
  congr 2
  funext q
  by_cases hq : q = i.toNatClampNeg
  · subst hq
    rcases hx01 with rfl | rfl <;> simp [updV, upd] <;> (try decide)
  · simp [updV, upd, hq]
theorem sd_last {a n : Nat} {i : Int32} {x : Int64} {v : Value} (C : mq_ctx g p R s mid args meth c y bs nL ret fr lo) (hd : decode bs pc = .ok (.lastore, 1)) (hs : mq_sh h a = .inr (3, n)) (hv : mq_cv g v = .ref (mq_ad g a)) (hi : vp_in i n) (K : mq_good g T p l e R s mid args below meth c Q n0 z0 nL (pc + 1) L r (mq_setJ h a i.toNatClampNeg x)) : mq_good g T p l e R s mid args below meth c Q n0 z0 nL pc L (.long x :: .int i :: v :: r) h := by
  obtain ⟨hx, hb, hml, hr, hown, hnm, hlk, hfr, hlo, hts, hK, -⟩ := C
  refine mq_good.pt (h' := mq_setJ h a i.toNatClampNeg x) (k := a) rfl rfl (fun _ => rfl) (fun j hj => ⟨rfl, mq_setJ_ne hj _ _, rfl⟩) (fun n' j _ e' => by rw [hs] at e'; cases e') (fun q => q) (fun H ls locs ce sl h1 _ _ hSv kk => ?_) K
  obtain ⟨h4, -, hc⟩ := h1.arr hs (by decide)
  simp only [List.map_cons, hv]
  refine W.last hx hb hc ((hK.2 3 _ rfl).1 n (fun j => .long (mq_J h a j))) (fun q => by cases q) (by show ¬ (i < 0 ∨ (arrV _ _ _).slots.size ≤ _); rw [arrV_size]; exact hi) rfl rfl hd fun H1 e z oq => ?_
  refine kk H1 _ h4 z oq ?_ (hSv.put z oq (mq_ad_ge h4))
  unfold mq_cell
  rw [show mq_sh (mq_setJ h a i.toNatClampNeg x) a = .inr (3, n) from hs]
  refine ⟨by decide, ?_⟩
  rw [e]
  show some ((arrV (g.2.2.2 3) n (fun j => .long (mq_J h a j))).setSlot _ _) = some (arrV (g.2.2.2 3) n (fun j => .long (mq_J (mq_setJ h a i.toNatClampNeg x) a j)))
  rw [arrV_store, mq_setJ_self]
  congr 2
  funext q
  by_cases hq : q = i.toNatClampNeg
  · subst hq
    simp [updV, vp_updL]
  · simp [updV, vp_updL, hq]
end MQ2
end
section
/-! ROWS OF REFERENCES, LENGTHS, NEW CELLS, COPIES -/
section MQ3
variable {g : mq_GH} {T : mq_T} {p : Program} {l : Launch} {e : Env} {R : Room} {s : State} {mid : MethodId} {args : Array Value} {below : List Frame} {meth : Method} {c : Code} {Q : State → Prop} {n0 z0 nL : Nat}
variable {y : MethodName} {bs : ByteArray} {ret : Option FieldType} {fr lo : Nat} {pc pc' : Nat} {L : mq_L} {st st' r : List Value} {h h' : mq_H}
theorem sd_aast {a n ty b : Nat} {i : Int32} {v x : Value} (C : mq_ctx g p R s mid args meth c y bs nL ret fr lo) (hd : decode bs pc = .ok (.aastore, 1)) (hty : ty = 4 ∨ ty = 5) (hs : mq_sh h a = .inr (ty, n)) (hv : mq_cv g v = .ref (mq_ad g a)) (hi : vp_in i n) (hsb : mq_sh h b = .inl (mq_el ty)) (hvb : mq_cv g x = .ref (mq_ad g b)) (hT : ∀ j, T.2 a j = none) (K : mq_good g T p l e R s mid args below meth c Q n0 z0 nL (pc + 1) L r (mq_setR h a i.toNatClampNeg (some b))) : mq_good g T p l e R s mid args below meth c Q n0 z0 nL pc L (x :: .int i :: v :: r) h := by
  obtain ⟨hx, hb, hml, hr, hown, hnm, hlk, hfr, hlo, hts, hK, -⟩ := C
  refine mq_good.pt (h' := mq_setR h a i.toNatClampNeg (some b)) (k := a) rfl rfl (fun _ => rfl) (fun j hj => ⟨rfl, rfl, mq_setR_ne hj _ _⟩) (fun n' j _ e' => by rw [hs] at e'; rcases hty with rfl | rfl <;> cases e') (fun _ j b' q => by rw [hT j] at q; cases q) (fun H ls locs ce sl h1 _ _ hSv kk => ?_) K
  obtain ⟨h4, -, hc⟩ := h1.arr hs (by rcases hty with rfl | rfl <;> decide)
  obtain ⟨-, q', hq', cellV, g1, g2, g3, -⟩ := h1.obj hsb
  have hlt : i.toNatClampNeg < n := Nat.not_le.mp fun q => hi (Or.inr q)
  have h0 : ¬ i < 0 := fun q => hi (Or.inl q)
  have hcls := (hK.1 (mq_el ty) q' hq').2
  have hRA : ∃ (kA : Class) (t : FieldType), s.vm.classes[g.2.2.2 ty]? = some kA ∧ kA.kind = .array (g.2.2.1.1 (mq_el ty)) (.object q'.1) := by
    rcases hty with rfl | rfl
    · obtain ⟨kA, comp, k1, k2, k3, -⟩ := (hK.2 4 _ rfl).2
      cases hq'
      have hcomp : comp = g.2.2.1.1 6 := Option.some.inj (k3.symm.trans hcls.1)
      subst hcomp
      exact ⟨kA, .int, k1, k2⟩
    · obtain ⟨kA, comp, k1, k2, k3, -⟩ := (hK.2 5 _ rfl).2
      cases hq'
      have hcomp : comp = g.2.2.1.1 7 := Option.some.inj (k3.symm.trans hcls.1)
      subst hcomp
      exact ⟨kA, .int, k1, k2⟩
  obtain ⟨kA, -, k1, k2⟩ := hRA
  obtain ⟨kC, hkC, -⟩ := hcls.2
  have hadt : mq_adt g h a ty = .inr (.inr (.inr (.inr (fun j => (mq_R h a j).map (mq_ad g))))) := by rcases hty with rfl | rfl <;> rfl
  rw [hadt] at hc
  simp only [List.map_cons, hv, hvb]
  refine W.aast hx hb hc (fun q h => by cases h) (fun h => by cases h) k1 k2 rfl hkC ⟨h0, by show _ < (arrV _ _ _).slots.size; rw [arrV_size]; exact hlt⟩ g1 (fun q h => by rw [g3] at h; cases h) (by rw [g2]; exact hkC) (by rw [g2]; exact va_assign hcls) rfl rfl hd fun H1 e z oq => ?_
  refine kk H1 _ h4 z oq ?_ (hSv.put z oq (mq_ad_ge h4))
  unfold mq_cell
  rw [show mq_sh (mq_setR h a i.toNatClampNeg (some b)) a = .inr (ty, n) from hs]
  refine ⟨by rcases hty with rfl | rfl <;> decide, ?_⟩
  have hadt' : mq_adt g (mq_setR h a i.toNatClampNeg (some b)) a ty = .inr (.inr (.inr (.inr (fun j => (mq_R (mq_setR h a i.toNatClampNeg (some b)) a j).map (mq_ad g))))) := by rcases hty with rfl | rfl <;> rfl
  rw [e, hadt']
  show some ((arrV (g.2.2.2 ty) n (fun j => va_rf ((mq_R h a j).map (mq_ad g)))).setSlot _ _) = some (arrV (g.2.2.2 ty) n (fun j => va_rf ((mq_R (mq_setR h a i.toNatClampNeg (some b)) a j).map (mq_ad g))))
  rw [arrV_store]
  congr 2
  funext q
  rw [mq_setR_self]
  by_cases hq : q = i.toNatClampNeg
  · subst hq
    simp [updV, va_rf]
  · simp [updV, hq]
theorem sd_alen {a n ty : Nat} {v : Value} (C : mq_ctx g p R s mid args meth c y bs nL ret fr lo) (hd : decode bs pc = .ok (.arraylength, 1)) (hs : mq_sh h a = .inr (ty, n)) (hty : ty ≤ 9) (hv : mq_cv g v = .ref (mq_ad g a)) (K : mq_good g T p l e R s mid args below meth c Q n0 z0 nL (pc + 1) L (.int (nI n) :: r) h) : mq_good g T p l e R s mid args below meth c Q n0 z0 nL pc L (v :: r) h := by
  obtain ⟨hx, hb, hml, hr, hown, hnm, hlk, hfr, hlo, hts, hK, -⟩ := C
  refine mq_good.sk (fun H ls locs ce sl h1 h2 _ _ kk => ?_) K
  simp only [List.map_cons, hv] at *
  by_cases h9 : ty = 9
  · subst h9
    have ha : a < 4 := by
      rcases Nat.lt_or_ge a 4 with q | q
      · exact q
      · rcases Nat.lt_or_ge a (mq_N h) with q2 | q2
        · have := h1.2.2.2.1 a q q2
          unfold mq_cell at this
          rw [hs] at this
          exact absurd this.1 (by decide)
        · have := h1.2.2.2.2.1 a q2
          rw [hs] at this
          cases this
    obtain ⟨scr, q1, q2, q3, q4, q5⟩ := h2 a n ha hs
    have ead : mq_ad g a = g.2.1 a := by unfold mq_ad; rw [if_pos ha]
    rw [ead] at *
    exact W.alen (n := nI n) hx hb q1 q2 (by rw [q4]; rfl) rfl rfl hd kk
  · obtain ⟨-, h6, hc⟩ := h1.arr hs (by omega)
    have ht : ∃ (t0 : Nat) (tyy : FieldType), (mq_tys g)[t0]? = some (g.2.2.2 ty, tyy) := by
      match ty, h6 with
      | 0, _ => exact ⟨0, _, rfl⟩
      | 1, _ => exact ⟨1, _, rfl⟩
      | 2, _ => exact ⟨2, _, rfl⟩
      | 3, _ => exact ⟨3, _, rfl⟩
      | 4, _ => exact ⟨4, _, rfl⟩
      | 5, _ => exact ⟨5, _, rfl⟩
    obtain ⟨t0, tyy, ht⟩ := ht
    exact va_alen (D := g.2.2.1) (cl := mq_cl) hx hb hK (mq_P1 (q := (mq_ad g a, .inl (g.2.2.2 ty, n, mq_adt g h a ty))) hc) 0 t0 rfl ht rfl hd kk
/-- a new cell -/
theorem mq_good.al {sh : mq_S} {z : Nat} (hg : g.1 ≤ s.heap.size) (hw : ∀ (H : Heap) (ls : Array Slot) (locs : List Loc) (ce sl : Nat), mq_rel g T h H → ce + 1 ≤ mq_N h + 1 - n0 → sl + z ≤ mq_Z h + z - z0 → (∀ (H1 : Heap), H1.size = H.size + 1 → (∀ q, q < H.size → H1[q]? = H[q]?) → mq_cell g (mq_new h sh z) (mq_N h) H1 → W p l e R s mid args below meth c H1 locs (ce + 1) (sl + z) Q (F0 mid pc' ls (Value.ref H.size :: r.map (mq_cv g)))) → W p l e R s mid args below meth c H locs ce sl Q (F0 mid pc ls (st.map (mq_cv g)))) (K : mq_good g T p l e R s mid args below meth c Q n0 z0 nL pc' L (.ref (mq_N h) :: r) (mq_new h sh z)) : mq_good g T p l e R s mid args below meth c Q n0 z0 nL pc L st h := by
  intro a b H ls locs h1 h2 h3 h4
  have ead : mq_ad g (mq_N h) = H.size := by
    unfold mq_ad
    rw [if_neg (by have := h1.1; omega), h1.2.1]
  refine hw H ls locs _ _ h1 (by omega) (by omega) (fun H1 hz oq hc => ?_)
  have eN : mq_N (mq_new h sh z) = mq_N h + 1 := rfl
  have eZ : mq_Z (mq_new h sh z) = mq_Z h + z := rfl
  have hx : ∀ k', k' < 4 → H1[g.2.1 k']? = H[g.2.1 k']? := fun k' hk' => oq _ (by have := h1.2.2.1 k' hk'; have := h1.2.1; omega)
  have hne : ∀ k', k' < 4 → k' ≠ mq_N h := fun k' hk' => by have := h1.1; omega
  have := K (by rw [eN]; omega) (by rw [eZ]; omega) H1 ls locs (h1.mk hc hz oq) (h2.kept (fun k' hk' => if_neg (hne k' hk')) (fun k' n hk' _ => by funext i; exact if_neg (hne k' hk')) hx) h3 ⟨Nat.le_trans h4.1 (by omega), fun q g1 g2 => (oq q (Nat.lt_of_lt_of_le g1 h4.1)).trans (h4.2.1 q g1 g2), h4.2.2⟩
  simp only [List.map_cons, mq_cv, ead] at this
  rw [eN, eZ] at this
  rw [show mq_N h + 1 - n0 = mq_N h - n0 + 1 by omega, show mq_Z h + z - z0 = mq_Z h - z0 + z by omega] at this
  exact this
theorem sd_newa {t : ArrayType} {a : Nat} {n : Int32} (C : mq_ctx g p R s mid args meth c y bs nL ret fr lo) (hd : decode bs pc = .ok (.newarray t, 2)) (ha : a < 4 ∧ newarray.typeOf t = mq_aty a) (hn : 0 ≤ n.toInt ∧ n.toInt < 100000) (hc1 : mq_N h + 1 - n0 ≤ R.cells) (hc2 : mq_Z h + n.toNatClampNeg - z0 ≤ R.slots) (K : mq_good g T p l e R s mid args below meth c Q n0 z0 nL (pc + 2) L (.ref (mq_N h) :: r) (mq_new h (.inr (a, n.toNatClampNeg)) n.toNatClampNeg)) : mq_good g T p l e R s mid args below meth c Q n0 z0 nL pc L (.int n :: r) h := by
  obtain ⟨hx, hb, hml, hr, hown, hnm, hlk, hfr, hlo, hts, hK, -, -, -, hg⟩ := C
  obtain ⟨ha4, hty⟩ := ha
  refine mq_good.al hg (fun H ls locs ce sl h1 e1 e2 kk => ?_) K
  have hn0 : ¬ n < 0 := by rw [Int32.lt_iff_toInt_lt]; simp; omega
  have hcl : n.toNatClampNeg < 100000 := by show n.toInt.toNat < 100000; omega
  have hby : n.toNatClampNeg * componentBytes (newarray.typeOf t) ≤ 536870912 := by
    rw [hty]
    have : componentBytes (mq_aty a) ≤ 8 := by
      match a, ha4 with
      | 0, _ => decide
      | 1, _ => decide
      | 2, _ => decide
      | 3, _ => decide
    exact Nat.le_trans (Nat.mul_le_mul (Nat.le_of_lt hcl) this) (by decide)
  refine va_newaK hx hb (by rw [hty]; exact hts _ (mq_ac ha4)) rfl hd rfl hn0 rfl hby (by omega) (by omega) rfl fun H1 cA q1 q2 q3 q4 q5 => ?_
  have hcA : cA = g.2.2.2 a := by
    rw [hty] at q5
    match a, ha4, q5 with
    | 0, _, q5 => exact Option.some.inj (q5.symm.trans (hK.2 0 _ rfl).2)
    | 1, _, q5 => exact Option.some.inj (q5.symm.trans (hK.2 1 _ rfl).2)
    | 2, _, q5 => exact Option.some.inj (q5.symm.trans (hK.2 2 _ rfl).2)
    | 3, _, q5 => exact Option.some.inj (q5.symm.trans (hK.2 3 _ rfl).2)
  refine kk H1 q2 q3 ?_
  have ead : mq_ad g (mq_N h) = H.size := by
    unfold mq_ad
    rw [if_neg (by have := h1.1; omega), h1.2.1]
  have eS : mq_sh (mq_new h (.inr (a, n.toNatClampNeg)) n.toNatClampNeg) (mq_N h) = .inr (a, n.toNatClampNeg) := if_pos rfl
  have eI : mq_I (mq_new h (.inr (a, n.toNatClampNeg)) n.toNatClampNeg) (mq_N h) = fun _ => 0 := by funext j; exact if_pos rfl
  have eJ : mq_J (mq_new h (.inr (a, n.toNatClampNeg)) n.toNatClampNeg) (mq_N h) = fun _ => 0 := by funext j; exact if_pos rfl
  unfold mq_cell
  rw [eS]
  refine ⟨by omega, ?_⟩
  rw [ead, q1, hty, hcA]
  unfold mq_adt
  rw [eI, eJ]
  match a, ha4 with
  | 0, _ => rfl
  | 1, _ => rfl
  | 2, _ => rfl
  | 3, _ => rfl
theorem sd_newq {a i : Nat} {n : Int32} (C : mq_ctx g p R s mid args meth c y bs nL ret fr lo) (hd : decode bs pc = .ok (.anewarray i, 3)) (ha : (a = 4 ∧ Cond.classLink y.cls i "RanOut$Law" ∈ mq_gw) ∨ (a = 5 ∧ Cond.classLink y.cls i "RanOut$Line" ∈ mq_gw)) (hn : 0 ≤ n.toInt ∧ n.toInt < 100000) (hc1 : mq_N h + 1 - n0 ≤ R.cells) (hc2 : mq_Z h + n.toNatClampNeg - z0 ≤ R.slots) (K : mq_good g T p l e R s mid args below meth c Q n0 z0 nL (pc + 3) L (.ref (mq_N h) :: r) (mq_new h (.inr (a, n.toNatClampNeg)) n.toNatClampNeg)) : mq_good g T p l e R s mid args below meth c Q n0 z0 nL pc L (.int n :: r) h := by
  obtain ⟨hx, hb, hml, hr, hown, hnm, hlk, hfr, hlo, hts, hK, -, hA1, ⟨hA2, -⟩, hg⟩ := C
  refine mq_good.al hg (fun H ls locs ce sl h1 e1 e2 kk => ?_) K
  have hn0 : ¬ n < 0 := by rw [Int32.lt_iff_toInt_lt]; simp; omega
  have hcl : n.toNatClampNeg < 100000 := by show n.toInt.toNat < 100000; omega
  have ead : mq_ad g (mq_N h) = H.size := by
    unfold mq_ad
    rw [if_neg (by have := h1.1; omega), h1.2.1]
  have eS : mq_sh (mq_new h (.inr (a, n.toNatClampNeg)) n.toNatClampNeg) (mq_N h) = .inr (a, n.toNatClampNeg) := if_pos rfl
  have eR : mq_R (mq_new h (.inr (a, n.toNatClampNeg)) n.toNatClampNeg) (mq_N h) = fun _ => none := by funext j; exact if_pos rfl
  have fin : ∀ (C' : String) (cA : ClassId), (a = 4 ∨ a = 5) → cA = g.2.2.2 a → mq_cell g (mq_new h (.inr (a, n.toNatClampNeg)) n.toNatClampNeg) (mq_N h) (H.push ({ cls := cA, slots := Array.replicate n.toNatClampNeg .null, vm := .none } : Cell)) := by
    intro C' cA hab hcA
    unfold mq_cell
    rw [eS]
    refine ⟨by omega, ?_⟩
    rw [ead, Array.getElem?_push_size, hcA]
    unfold mq_adt
    rw [eR]
    rcases hab with rfl | rfl
    · show some _ = some (arrV _ _ (fun _ => Value.null))
      rw [← arrV_new]
    · show some _ = some (arrV _ _ (fun _ => Value.null))
      rw [← arrV_new]
  rcases ha with ⟨rfl, hl⟩ | ⟨rfl, hl⟩
  · refine W.anew hx hb hown (hts _ hl) (va_AO.use hA1) rfl hd rfl hn0 (by omega) (by omega) (by omega) fun cA kA comp f1 f2 f3 f4 => ?_
    refine kk _ (by rw [Array.size_push]) (fun q hq => by rw [Array.getElem?_push, if_neg (Nat.ne_of_lt hq)]) (fin "RanOut$Law" cA (Or.inl rfl) ?_)
    obtain ⟨_, _, _, _, _, k5⟩ := (hK.2 4 _ rfl).2
    exact Option.some.inj (f1.symm.trans k5)
  · refine W.anew hx hb hown (hts _ hl) (va_AO.use hA2) rfl hd rfl hn0 (by omega) (by omega) (by omega) fun cA kA comp f1 f2 f3 f4 => ?_
    refine kk _ (by rw [Array.size_push]) (fun q hq => by rw [Array.getElem?_push, if_neg (Nat.ne_of_lt hq)]) (fin "RanOut$Line" cA (Or.inr rfl) ?_)
    obtain ⟨_, _, _, _, _, k5⟩ := (hK.2 5 _ rfl).2
    exact Option.some.inj (f1.symm.trans k5)
theorem sd_newc {a i : Nat} {q : vw_C} (C : mq_ctx g p R s mid args meth c y bs nL ret fr lo) (hd : decode bs pc = .ok (.new i, 3)) (hq : mq_cl[a]? = some q) (hlink : Cond.classLink y.cls i q.1 ∈ mq_gw) (hc1 : mq_N h + 1 - n0 ≤ R.cells) (hc2 : mq_Z h + q.2.2 - z0 ≤ R.slots) (K : mq_good g T p l e R s mid args below meth c Q n0 z0 nL (pc + 3) L (.ref (mq_N h) :: st) (mq_new h (.inl a) q.2.2)) : mq_good g T p l e R s mid args below meth c Q n0 z0 nL pc L st h := by
  obtain ⟨hx, hb, hml, hr, hown, hnm, hlk, hfr, hlo, hts, hK, -, -, -, hg⟩ := C
  refine mq_good.al hg (fun H ls locs ce sl h1 e1 e2 kk => ?_) K
  obtain ⟨hin, hty, -, hk9, hins, hini⟩ := mq_cls hq
  have hKn := hK.1 a _ hq
  refine W.newcK hx hb hown (hts _ hlink) (hts _ hins) (hts _ hini) rfl hd (by omega) (by omega) hKn.2.1 rfl fun H1 kC hkC q1 q2 q3 => ?_
  refine kk H1 q2 q3 ?_
  have ead : mq_ad g (mq_N h) = H.size := by
    unfold mq_ad
    rw [if_neg (by have := h1.1; omega), h1.2.1]
  have eS : mq_sh (mq_new h (.inl a) q.2.2) (mq_N h) = .inl a := if_pos rfl
  unfold mq_cell
  rw [eS]
  refine ⟨q, hq, ?_⟩
  rw [ead]
  refine (u_born (mq_fty a) hts hin hKn hkC q1 hty).to (fun j hj => ?_)
  have eI : mq_I (mq_new h (.inl a) q.2.2) (mq_N h) j = 0 := if_pos rfl
  have eJ : mq_J (mq_new h (.inl a) q.2.2) (mq_N h) j = 0 := if_pos rfl
  have eR : mq_R (mq_new h (.inl a) q.2.2) (mq_N h) j = none := if_pos rfl
  have h9 := hk9 j hj
  unfold mq_fv
  rw [eI, eJ, eR]
  generalize mq_fty a j = t at h9
  cases t <;> first | rfl | exact absurd rfl h9
theorem sd_obj {i b : Nat} (C : mq_ctx g p R s mid args meth c y bs nL ret fr lo) (hd : decode bs pc = .ok (.invokespecial i, 3)) (hlink : Cond.methodLink y.cls i Lib.objectInit ∈ mq_gw) (hf : 1 ≤ fr) (hl : 20 ≤ lo) (hcat : mq_cat r ≤ 8) (K : mq_good g T p l e R s mid args below meth c Q n0 z0 nL (pc + 3) L r h) : mq_good g T p l e R s mid args below meth c Q n0 z0 nL pc L (.ref b :: r) h := by
  obtain ⟨hx, hb, hml, hr, hown, hnm, hlk, hfr, hlo, hts, hK, -⟩ := C
  refine mq_good.sk (fun H ls locs ce sl h1 _ h3 _ kk => ?_) K
  have hsum := mq_cat_sum g r
  exact W.objInit hx hb hown (hts _ hlink) (hts _ mq_obI) (hts _ mq_obC) rfl (by rw [hml]; exact h3.1) rfl hd (by omega) (by show 2 * 0 + (List.map (fun v => v.category) (List.map (mq_cv g) r)).sum + 12 ≤ R.locals; omega) kk
end MQ3
end
section
/-! System.arraycopy -/
section MQ4
variable {g : mq_GH} {T : mq_T} {p : Program} {l : Launch} {e : Env} {R : Room} {s : State} {mid : MethodId} {args : Array Value} {below : List Frame} {meth : Method} {c : Code} {Q : State → Prop} {n0 z0 nL : Nat}
variable {y : MethodName} {bs : ByteArray} {ret : Option FieldType} {fr lo : Nat} {pc pc' : Nat} {L : mq_L} {st st' r : List Value} {h h' : mq_H}
theorem mq_nn {z : Int32} (hz : 0 ≤ z.toInt) : z.toInt = (z.toNatClampNeg : Int) := by
  show z.toInt = ((z.toInt.toNat : Nat) : Int)
  omega
theorem mq_n0 {z : Int32} (hz : 0 ≤ z.toInt) : ¬ z < 0 := by
  rw [Int32.lt_iff_toInt_lt]
  simp
  exact hz
/-- a copy between two cells, as the machine does it -/
theorem mq_Wcopy {cc : ByteArray} {rest : List Value} {ls : Array Slot} {H : Heap} {locs : List Loc} {ce sl : Nat} (hexec : p.tables.exec = Jvm.exec) (hb : c.code = cc) (hml : c.maxLocals = ls.size) {own : String} {index : Nat} (hown : s.vm.findClass own = some mid.cls) (hlink : (Cond.methodLink own index arraycopyName).before args s = true) (hnat : (Cond.native arraycopyName).before args s = true) (hstat : (Cond.static arraycopyName).before args s = true) (hini : (Cond.initialized "java/lang/System").before args s = true)
    {a0 a : Nat} {c0 c1 : ClassId} {m0 m1 : Nat} {f0 f1 : Nat → Value} {ty : FieldType} (hc0 : H[a0]? = some (arrV c0 m0 f0)) (hc1 : H[a]? = some (arrV c1 m1 f1)) (hA0 : ArrOfT s c0 ty) (hA1 : ArrOfT s c1 ty)
    {sp dp n : Int32} (h1 : 0 ≤ sp.toInt) (h2 : 0 ≤ dp.toInt) (h3 : 0 ≤ n.toInt) (h4 : sp.toInt + n.toInt ≤ (m0 : Int)) (h5 : dp.toInt + n.toInt ≤ (m1 : Int))
    (hty : ((refKind ty != refKind ty) || (!refKind ty && ty != ty)) = false) (hel : ∀ (T0 : State) (vm₁ : Vm) (comp : ClassId) (k : Class), T0.heap = H → s.vm.Alike vm₁ → s.vm.classes[c1]? = some k → k.kind = .array comp ty → ∀ i, i < n.toNatClampNeg → fits ty (f0 (sp.toNatClampNeg + i)) = true ∧ (T0.setVm vm₁).takes comp (f0 (sp.toNatClampNeg + i)))
    (hframes : 1 ≤ R.frames) (hlocals : (rest.map fun v => v.category).sum + (nativeFrameWords "java/lang/System" "arraycopy" 5 + 11) ≤ R.locals) (hdg : decode cc pc = .ok (.invokestatic index, 3))
    (kk : ∀ (H1 : Heap) (locs1 : List Loc), H1[a]? = some ((arrV c1 m1 f1).storeRun dp.toNatClampNeg ((arrV c0 m0 f0).stretch sp.toNatClampNeg n.toNatClampNeg)) → H1.size = H.size → (∀ q, q ≠ a → H1[q]? = H[q]?) → (∀ x ∈ locs1, x ∈ locs ∨ x.base = a) → W p l e R s mid args below meth c H1 locs1 ce sl Q (F0 mid (pc + 3) ls rest)) : W p l e R s mid args below meth c H locs ce sl Q (F0 mid pc ls (.int n :: .int dp :: .ref a :: .int sp :: .ref a0 :: rest)) := by
  intro T0 hT X
  obtain ⟨-, k0, hk0, cm0, hkk0⟩ := hA0 m0 f0
  obtain ⟨-, k1, hk1, cm1, hkk1⟩ := hA1 m1 f1
  have e0 := mq_nn h1
  have e3 := mq_nn h3
  obtain ⟨vm', X', step⟩ := X.arraycopy hexec hown hlink hnat hstat hini (src := a0) (dst := a) (cs := arrV c0 m0 f0) (cd := arrV c1 m1 f1) (srcPos := sp) (destPos := dp) (n := n) (by rw [hT]; exact hc0) (by rw [hT]; exact hc1)
    (fun _ h => by cases h) (fun _ h => by cases h) (fun h => by cases h) (fun h => by cases h) hk0 hk1 hkk0 hkk1 hty (mq_n0 h1) (mq_n0 h2) (mq_n0 h3)
    (by rw [arrV_size]; omega) (by rw [arrV_size]; omega)
    (fun vm₁ hal i hi => by
      have e : (arrV c0 m0 f0).slots.getD (sp.toNatClampNeg + i) .null = f0 (sp.toNatClampNeg + i) := by
        rw [Array.getD_eq_getD_getElem?, arrV_read _ _ (by omega)]
        rfl
      rw [e]
      exact hel T0 vm₁ cm1 k1 hT hal hk1 hkk1 i hi)
    (g := F0 mid pc ls (.int n :: .int dp :: .ref a :: .int sp :: .ref a0 :: rest)) rfl (by rw [hml]) (rest := rest) rfl (by rw [hb]; exact hdg) hframes (by show 2 * 0 + _ + _ ≤ _; omega)
  have hl : a < H.size := (Array.getElem?_eq_some_iff.mp hc1).1
  have hheap : ((T0.setVm vm').setCell a (copied (arrV c0 m0 f0) (arrV c1 m1 f1) sp dp n)).heap = H.setIfInBounds a (copied (arrV c0 m0 f0) (arrV c1 m1 f1) sp dp n) := by rw [← hT]; rfl
  obtain ⟨t, a1, b1⟩ := kk _ _ (show (H.setIfInBounds a (copied (arrV c0 m0 f0) (arrV c1 m1 f1) sp dp n))[a]? = some _ by rw [Array.getElem?_setIfInBounds]; simp only [if_true, hl]; first | done | rfl) (by simp) (fun q hq => by simp [Array.getElem?_setIfInBounds, Ne.symm hq]) (fun x hx => by
      rcases List.mem_append.mp hx with h | h
      · exact Or.inl h
      · obtain ⟨z, -, hz⟩ := List.mem_map.mp h
        exact Or.inr (by rw [← hz])) _ hheap X'
  exact ⟨t, step t a1, b1⟩
theorem mq_cpI_self (h : mq_H) (a0 a1 sp dp n : Nat) : mq_I (mq_cpI h a0 a1 sp dp n) a1 = va_cpy (mq_I h a0) (mq_I h a1) sp dp n := by
  funext j
  exact if_pos rfl
theorem mq_cpI_ne {h : mq_H} {a0 a1 j : Nat} (hj : j ≠ a1) (sp dp n : Nat) : mq_I (mq_cpI h a0 a1 sp dp n) j = mq_I h j := by
  funext i
  exact if_neg hj
theorem mq_cpR_self (h : mq_H) (a0 a1 sp dp n : Nat) : mq_R (mq_cpR h a0 a1 sp dp n) a1 = va_cpy (mq_R h a0) (mq_R h a1) sp dp n := by
  funext j
  exact if_pos rfl
theorem mq_cpR_ne {h : mq_H} {a0 a1 j : Nat} (hj : j ≠ a1) (sp dp n : Nat) : mq_R (mq_cpR h a0 a1 sp dp n) j = mq_R h j := by
  funext i
  exact if_neg hj
theorem sd_cpI {i ty a0 a1 m0 m1 : Nat} {sp dp n : Int32} {v0 v1 : Value} (C : mq_ctx g p R s mid args meth c y bs nL ret fr lo) (hd : decode bs pc = .ok (.invokestatic i, 3)) (hlink : Cond.methodLink y.cls i arraycopyName ∈ mq_gw) (hf : 1 ≤ fr) (hl : 26 ≤ lo) (hty : ty = 0 ∨ ty = 2) (hs0 : mq_sh h a0 = .inr (ty, m0)) (hs1 : mq_sh h a1 = .inr (ty, m1)) (hv0 : mq_cv g v0 = .ref (mq_ad g a0)) (hv1 : mq_cv g v1 = .ref (mq_ad g a1))
    (h1 : 0 ≤ sp.toInt) (h2 : 0 ≤ dp.toInt) (h3 : 0 ≤ n.toInt) (h4 : sp.toInt + n.toInt ≤ (m0 : Int)) (h5 : dp.toInt + n.toInt ≤ (m1 : Int)) (hcat : mq_cat r ≤ 8) (K : mq_good g T p l e R s mid args below meth c Q n0 z0 nL (pc + 3) L r (mq_cpI h a0 a1 sp.toNatClampNeg dp.toNatClampNeg n.toNatClampNeg)) : mq_good g T p l e R s mid args below meth c Q n0 z0 nL pc L (.int n :: .int dp :: v1 :: .int sp :: v0 :: r) h := by
  obtain ⟨hx, hb, hml, hr, hown, hnm, hlk, hfr, hlo, hts, hK, -⟩ := C
  intro a' b' H ls locs r1 r2 r3 r4
  obtain ⟨q4, -, hc0⟩ := r1.arr hs0 (by rcases hty with rfl | rfl <;> decide)
  obtain ⟨q5, -, hc1⟩ := r1.arr hs1 (by rcases hty with rfl | rfl <;> decide)
  have hsum := mq_cat_sum g r
  have e0 := mq_nn h1
  have e2 := mq_nn h2
  have e3 := mq_nn h3
  have had : ∀ k, mq_adt g h k ty = .inl (mq_I h k) := fun k => by rcases hty with rfl | rfl <;> rfl
  rw [had] at hc0 hc1
  have hAr : ∃ t : FieldType, (t = .int ∨ t = .boolean ∧ ty = 2) ∧ ArrOfT s (g.2.2.2 ty) t := by
    rcases hty with rfl | rfl
    · exact ⟨.int, Or.inl rfl, (hK.2 0 _ rfl).1⟩
    · exact ⟨.boolean, Or.inr ⟨rfl, rfl⟩, (hK.2 2 _ rfl).1⟩
  obtain ⟨t, ht, hA⟩ := hAr
  simp only [List.map_cons, hv0, hv1]
  refine mq_Wcopy (f0 := fun j => .int (mq_I h a0 j)) (f1 := fun j => .int (mq_I h a1 j)) (ty := t) hx hb (by rw [hml]; exact r3.1.symm) hown (hts _ hlink) (hts _ mq_cpN) (hts _ mq_cpS) (hts _ mq_cpI0) hc0 hc1 hA hA h1 h2 h3 h4 h5 (by rcases ht with rfl | ⟨rfl, -⟩ <;> decide) (fun T0 vm₁ comp k _ _ _ _ i hi => ⟨?_, trivial⟩) (by omega) (by show _ + (7 + 11) ≤ _; omega) hd (fun H1 locs1 q1 q2 q3 q6 => ?_)
  · rcases ht with rfl | ⟨rfl, rfl⟩
    · rfl
    · rcases r1.2.2.2.2.2.2.1 a0 m0 (sp.toNatClampNeg + i) hs0 with e | e <;> rw [e] <;> decide
  · rw [va_copied (fun z => Value.int z) (g.2.2.2 ty) (g.2.2.2 ty) (mq_I h a0) (mq_I h a1) (by omega)] at q1
    have hcell : mq_cell g (mq_cpI h a0 a1 sp.toNatClampNeg dp.toNatClampNeg n.toNatClampNeg) a1 H1 := by
      unfold mq_cell
      rw [show mq_sh (mq_cpI h a0 a1 sp.toNatClampNeg dp.toNatClampNeg n.toNatClampNeg) a1 = .inr (ty, m1) from hs1]
      refine ⟨by rcases hty with rfl | rfl <;> decide, ?_⟩
      rw [q1]
      have had' : mq_adt g (mq_cpI h a0 a1 sp.toNatClampNeg dp.toNatClampNeg n.toNatClampNeg) a1 ty = .inl (mq_I (mq_cpI h a0 a1 sp.toNatClampNeg dp.toNatClampNeg n.toNatClampNeg) a1) := by rcases hty with rfl | rfl <;> rfl
      rw [had', mq_cpI_self]
      rfl
    have hxx : ∀ k', k' < 4 → H1[g.2.1 k']? = H[g.2.1 k']? := fun k' hk' => q3 _ (fun e => by have := r1.2.2.1 k' hk'; have := mq_ad_ge (g := g) q5; omega)
    refine K a' b' H1 ls locs1 (r1.put (k := a1) q5 rfl (fun _ => rfl) (fun j hj => ⟨mq_cpI_ne hj _ _ _, rfl, rfl⟩) hcell q2 q3 (fun m j e => ?_) (fun j b hb => (r1.2.2.2.2.2.2.2.2 a1 j b hb).1)) (r2.kept (fun _ _ => rfl) (fun k' _ hk' _ => mq_cpI_ne (by omega) _ _ _) hxx) r3 ⟨by rw [q2]; exact r4.1, fun q g1 g2 => by rw [q3 q (fun e => g2 (by rw [e]; exact mq_ad_ge q5))]; exact r4.2.1 q g1 g2, fun x hx => ?_⟩
    · rw [hs1] at e
      cases e
      rw [mq_cpI_self]
      unfold va_cpy
      split
      · exact r1.2.2.2.2.2.2.1 a0 m0 _ hs0
      · exact r1.2.2.2.2.2.2.1 a1 m1 _ hs1
    · rcases q6 x hx with q | q
      · exact r4.2.2 x q
      · show g.1 ≤ x.base
        rw [q]; exact mq_ad_ge q5
theorem sd_cpR {i ty a0 a1 m0 m1 : Nat} {sp dp n : Int32} {v0 v1 : Value} (C : mq_ctx g p R s mid args meth c y bs nL ret fr lo) (hd : decode bs pc = .ok (.invokestatic i, 3)) (hlink : Cond.methodLink y.cls i arraycopyName ∈ mq_gw) (hf : 1 ≤ fr) (hl : 26 ≤ lo) (hty : ty = 4 ∨ ty = 5) (hs0 : mq_sh h a0 = .inr (ty, m0)) (hs1 : mq_sh h a1 = .inr (ty, m1)) (hv0 : mq_cv g v0 = .ref (mq_ad g a0)) (hv1 : mq_cv g v1 = .ref (mq_ad g a1))
    (h1 : 0 ≤ sp.toInt) (h2 : 0 ≤ dp.toInt) (h3 : 0 ≤ n.toInt) (h4 : sp.toInt + n.toInt ≤ (m0 : Int)) (h5 : dp.toInt + n.toInt ≤ (m1 : Int)) (hcat : mq_cat r ≤ 8) (hE : mq_gE h a0 sp.toNatClampNeg n.toNatClampNeg (mq_el ty) = true) (hT : ∀ j, T.2 a1 j = none) (K : mq_good g T p l e R s mid args below meth c Q n0 z0 nL (pc + 3) L r (mq_cpR h a0 a1 sp.toNatClampNeg dp.toNatClampNeg n.toNatClampNeg)) : mq_good g T p l e R s mid args below meth c Q n0 z0 nL pc L (.int n :: .int dp :: v1 :: .int sp :: v0 :: r) h := by
  obtain ⟨hx, hb, hml, hr, hown, hnm, hlk, hfr, hlo, hts, hK, -⟩ := C
  intro a' b' H ls locs r1 r2 r3 r4
  obtain ⟨q4, -, hc0⟩ := r1.arr hs0 (by rcases hty with rfl | rfl <;> decide)
  obtain ⟨q5, -, hc1⟩ := r1.arr hs1 (by rcases hty with rfl | rfl <;> decide)
  have hsum := mq_cat_sum g r
  have e0 := mq_nn h1
  have e2 := mq_nn h2
  have e3 := mq_nn h3
  have had : ∀ k, mq_adt g h k ty = .inr (.inr (.inr (.inr (fun j => (mq_R h k j).map (mq_ad g))))) := fun k => by rcases hty with rfl | rfl <;> rfl
  rw [had] at hc0 hc1
  have hAr : ∃ t : String, ArrOfT s (g.2.2.2 ty) (.object t) ∧ va_RA s (g.2.2.2 ty) (.object t) ∧ ∃ q, mq_cl[mq_el ty]? = some q ∧ q.1 = t := by
    rcases hty with rfl | rfl
    · exact ⟨"RanOut$Law", (hK.2 4 _ rfl).1, (hK.2 4 _ rfl).2, _, rfl, rfl⟩
    · exact ⟨"RanOut$Line", (hK.2 5 _ rfl).1, (hK.2 5 _ rfl).2, _, rfl, rfl⟩
  obtain ⟨t, hA, hRA, q', hq', hqt⟩ := hAr
  have hcls := (hK.1 (mq_el ty) q' hq').2
  simp only [List.map_cons, hv0, hv1]
  refine mq_Wcopy (f0 := fun j => va_rf ((mq_R h a0 j).map (mq_ad g))) (f1 := fun j => va_rf ((mq_R h a1 j).map (mq_ad g))) (ty := .object t) hx hb (by rw [hml]; exact r3.1.symm) hown (hts _ hlink) (hts _ mq_cpN) (hts _ mq_cpS) (hts _ mq_cpI0) hc0 hc1 hA hA h1 h2 h3 h4 h5 rfl (fun T0 vm₁ comp k hT0 hal hk1 hk2 i hi => ?_) (by omega) (by show _ + (7 + 11) ≤ _; omega) hd (fun H1 locs1 q1 q2 q3 q6 => ?_)
  · have hEi := List.all_eq_true.mp hE i (List.mem_range.mpr hi)
    cases hy : mq_R h a0 (sp.toNatClampNeg + i) with
    | none => exact ⟨rfl, trivial⟩
    | some b =>
      rw [hy] at hEi
      have hsb : mq_sh h b = .inl (mq_el ty) := by
        simp only [mq_isO] at hEi
        split at hEi
        · rename_i c' hc'
          rw [hc', Nat.eq_of_beq_eq_true hEi]
        · cases hEi
      obtain ⟨-, q'', hq'', cellV, g1, g2, g3, -⟩ := r1.obj hsb
      obtain ⟨kA, comp', z1, z2, z3, -⟩ := hRA
      cases hk1.symm.trans z1
      cases hk2.symm.trans z2
      have hcomp : comp = g.2.2.1.1 (mq_el ty) := by
        rw [← hqt] at z3
        exact Option.some.inj (z3.symm.trans hcls.1)
      obtain ⟨kC, hkC, -⟩ := hcls.2
      obtain ⟨kC', hkC', -⟩ := hal.2.2 _ _ hkC
      refine ⟨rfl, cellV, (show T0.heap[mq_ad g b]? = some cellV by rw [hT0]; exact g1), (fun q h => by rw [g3] at h; cases h), ⟨kC', by rw [g2]; exact hkC'⟩, ?_, ?_⟩
      · exact ⟨kC', by rw [hcomp]; exact hkC'⟩
      · show vm₁.assignable _ _ = true
        rw [hal.assignable, g2, hcomp]
        exact va_assign hcls
  · have e1 := va_copied (fun z : Option Nat => va_rf (z.map (mq_ad g))) (g.2.2.2 ty) (g.2.2.2 ty) (n1 := m1) (dp := dp.toNatClampNeg) (mq_R h a0) (mq_R h a1) (show sp.toNatClampNeg + n.toNatClampNeg ≤ m0 by omega)
    rw [e1] at q1
    have hcell : mq_cell g (mq_cpR h a0 a1 sp.toNatClampNeg dp.toNatClampNeg n.toNatClampNeg) a1 H1 := by
      unfold mq_cell
      rw [show mq_sh (mq_cpR h a0 a1 sp.toNatClampNeg dp.toNatClampNeg n.toNatClampNeg) a1 = .inr (ty, m1) from hs1]
      refine ⟨by rcases hty with rfl | rfl <;> decide, ?_⟩
      rw [q1]
      have had' : mq_adt g (mq_cpR h a0 a1 sp.toNatClampNeg dp.toNatClampNeg n.toNatClampNeg) a1 ty = .inr (.inr (.inr (.inr (fun j => (mq_R (mq_cpR h a0 a1 sp.toNatClampNeg dp.toNatClampNeg n.toNatClampNeg) a1 j).map (mq_ad g))))) := by rcases hty with rfl | rfl <;> rfl
      rw [had', mq_cpR_self]
      rfl
    have hxx : ∀ k', k' < 4 → H1[g.2.1 k']? = H[g.2.1 k']? := fun k' hk' => q3 _ (fun e => by have := r1.2.2.1 k' hk'; have := mq_ad_ge (g := g) q5; omega)
    refine K a' b' H1 ls locs1 (r1.put (k := a1) q5 rfl (fun _ => rfl) (fun j hj => ⟨rfl, rfl, mq_cpR_ne hj _ _ _⟩) hcell q2 q3 (fun m j e => ?_) (fun j b hb => by rw [hT j] at hb; cases hb)) (r2.kept (fun _ _ => rfl) (fun k' _ hk' _ => rfl) hxx) r3 ⟨by rw [q2]; exact r4.1, fun q g1 g2 => by rw [q3 q (fun e => g2 (by rw [e]; exact mq_ad_ge q5))]; exact r4.2.1 q g1 g2, fun x hx => ?_⟩
    · rw [hs1] at e
      rcases hty with rfl | rfl <;> cases e
    · rcases q6 x hx with q | q
      · exact r4.2.2 x q
      · show g.1 ≤ x.base
        rw [q]; exact mq_ad_ge q5
theorem mq_arrV_cong {cI : ClassId} {n : Nat} {f f' : Nat → Value} (h : ∀ j, j < n → f j = f' j) : arrV cI n f = arrV cI n f' := by
  have : (fun j : Fin n => f j.val) = fun j : Fin n => f' j.val := funext fun j => h j.val j.isLt
  unfold arrV
  rw [this]
/-- a clone of a row of ints -/
theorem sd_clone {i a0 n : Nat} (C : mq_ctx g p R s mid args meth c y bs nL ret fr lo) (hOs : mq_os g s) (hd : decode bs pc = .ok (.invokevirtual i, 3)) (hl : Cond.methodLink y.cls i ⟨"[I", "clone", "()Ljava/lang/Object;"⟩ ∈ mq_gw) (hsh : ∀ H, mq_rel g T h H → mq_sh h a0 = .inr (0, n)) (h8 : mq_cat r ≤ 8) (hfr1 : 1 ≤ R.frames) (hlo1 : 22 ≤ R.locals) (hc1 : mq_N (mq_cpI (mq_new h (.inr (0, n)) n) a0 (mq_N h) 0 0 n) - n0 ≤ R.cells) (hc2 : mq_Z (mq_cpI (mq_new h (.inr (0, n)) n) a0 (mq_N h) 0 0 n) - z0 ≤ R.slots) (K : mq_good g T p l e R s mid args below meth c Q n0 z0 nL (pc + 3) L (.ref (mq_N h) :: r) (mq_cpI (mq_new h (.inr (0, n)) n) a0 (mq_N h) 0 0 n)) : mq_good g T p l e R s mid args below meth c Q n0 z0 nL pc L (.retAddr a0 :: r) h := by
  obtain ⟨hx, hb, hml, hr, hown, hnm, hlk, hfr, hlo, hts, hK, -, hA1, -, hgs⟩ := id C
  obtain ⟨aV, -, -, -, hca, hsm⟩ := hOs
  intro q1 q2 H ls locs r1 r2 r3 r4
  have hs0 := hsh H r1
  obtain ⟨h4, -, hc⟩ := r1.arr hs0 (by decide)
  have hadt : mq_adt g h a0 0 = .inl (mq_I h a0) := rfl
  rw [hadt] at hc
  have hnm : s.vm.findClass "[I" = some (g.2.2.2 0) := (hK.2 0 _ rfl).2
  obtain ⟨c0, t0', f1, f2, f3⟩ := Cond.castable_spec (va_Nw.use (A := args) rfl hca)
  cases hnm.symm.trans f1
  have eN : mq_N (mq_cpI (mq_new h (.inr (0, n)) n) a0 (mq_N h) 0 0 n) = mq_N h + 1 := rfl
  have eZ : mq_Z (mq_cpI (mq_new h (.inr (0, n)) n) a0 (mq_N h) 0 0 n) = mq_Z h + n := rfl
  rw [eN] at hc1
  rw [eZ] at hc2
  have hlt : a0 ≠ mq_N h := by
    have := (r1.lt (k := a0) (fun t m e => by rw [hs0] at e; cases e; omega)).2
    omega
  have ead : mq_ad g (mq_N h) = H.size := by
    unfold mq_ad
    rw [if_neg (by have := r1.1; omega), r1.2.1]
  intro T0 hT X
  obtain ⟨-, kA, hkA, comp, hkind⟩ := State.isArrayOf_alike X.warmed.alike ((hK.2 0 _ rfl).1 0 (fun _ => .null))
  obtain ⟨-, kS, hkS, compS, hkindS⟩ := (hK.2 0 _ rfl).1 0 (fun _ => .null)
  have hcellT : T0.heap[mq_ad g a0]? = some (vp_cell (g.2.2.2 0) (n, .inl (mq_I h a0))) := by rw [hT]; exact hc
  obtain ⟨vm', X', st⟩ := X.cloneArray hx hown (hts _ hl) (va_Nw.use rfl hsm) (hts _ jk_nOC) (hts _ jk_iOC) (hts _ jk_lOC) (a := mq_ad g a0) (cell := vp_cell (g.2.2.2 0) (n, .inl (mq_I h a0))) hcellT (fun k h => by cases h) (fun h => by cases h) hnm f2 f3
    (fun i v hv => by
      have hk' : T0.vm.classes[g.2.2.2 0]? = some kA := hkA
      have hv' : ∃ z, v = .int z := by
        have hv : (arrV (g.2.2.2 0) n (fun j => .int (mq_I h a0 j))).slots[i]? = some v := hv
        by_cases hi : i < n
        · rw [arrV_read _ _ hi] at hv
          cases hv
          exact ⟨_, rfl⟩
        · rw [Array.getElem?_eq_none (by rw [arrV_size]; omega)] at hv
          cases hv
      obtain ⟨z, rfl⟩ := hv'
      have hcls : (vp_cell (g.2.2.2 0) (n, .inl (mq_I h a0))).cls = g.2.2.2 0 := rfl
      simp only [State.fitsSlot, State.slotType?]
      rw [hcls, hk']
      show (match (match kA.kind with | .array _ type => some type | _ => kA.instanceTypes[i]?) with | some t => fits t (Value.int z) | none => false) = true
      rw [hkind]
      rfl)
    (g := F0 mid pc ls ((Value.retAddr a0 :: r).map (mq_cv g))) rfl (by rw [hml]; exact r3.1) rfl (by rw [hb]; exact hd) hfr1 (by rw [← mq_cat_sum g r] at h8; show 2 * 0 + _ + 14 ≤ _; omega) (by omega) (by show _ + (arrV _ _ _).slots.size ≤ _; rw [arrV_size]; omega) (hloader := Vm.clonesLoader_of_array hkS hkindS)
  have hsz : (vp_cell (g.2.2.2 0) (n, .inl (mq_I h a0))).slots.size = n := arrV_size _ _ _
  have hcellE : ({ cls := (vp_cell (g.2.2.2 0) (n, .inl (mq_I h a0))).cls, slots := (vp_cell (g.2.2.2 0) (n, .inl (mq_I h a0))).slots } : Cell) = vp_cell (g.2.2.2 0) (n, .inl (mq_I h a0)) := rfl
  rw [hcellE, hsz] at X'
  generalize hH1 : H.push (vp_cell (g.2.2.2 0) (n, .inl (mq_I h a0))) = H1
  have zz : H1.size = H.size + 1 := by rw [← hH1, Array.size_push]
  have ee : H1[H.size]? = some (vp_cell (g.2.2.2 0) (n, .inl (mq_I h a0))) := by rw [← hH1, Array.getElem?_push_size]
  have oo : ∀ q : Nat, q < H.size → H1[q]? = H[q]? := fun q hq => by rw [← hH1, Array.getElem?_push, if_neg (Nat.ne_of_lt hq)]
  have hz0 : (H.push (vp_cell (g.2.2.2 0) (n, .inl (fun _ => 0)))).size = H.size + 1 := Array.size_push _
  have r1' : mq_rel g T (mq_new h (.inr (0, n)) n) (H.push (vp_cell (g.2.2.2 0) (n, .inl (fun _ => 0)))) := by
    refine r1.mk ?_ hz0 (fun q hq => by rw [Array.getElem?_push, if_neg (Nat.ne_of_lt hq)])
    have eS : mq_sh (mq_new h (.inr (0, n)) n) (mq_N h) = .inr (0, n) := if_pos rfl
    have eI : mq_I (mq_new h (.inr (0, n)) n) (mq_N h) = fun _ => 0 := by funext j; exact if_pos rfl
    unfold mq_cell
    rw [eS]
    refine ⟨by decide, ?_⟩
    rw [ead, Array.getElem?_push_size]
    unfold mq_adt
    rw [eI]
    rfl
  have eI' : mq_I (mq_cpI (mq_new h (.inr (0, n)) n) a0 (mq_N h) 0 0 n) (mq_N h) = va_cpy (mq_I h a0) (fun _ => 0) 0 0 n := by
    funext j
    show (if mq_N h = mq_N h then va_cpy (fun i => if a0 = mq_N h then (0 : Int32) else mq_I h a0 i) (fun i => if mq_N h = mq_N h then (0 : Int32) else mq_I h (mq_N h) i) 0 0 n j else _) = _
    rw [if_pos rfl]
    simp only [if_neg hlt, if_true]
  have r1'' : mq_rel g T (mq_cpI (mq_new h (.inr (0, n)) n) a0 (mq_N h) 0 0 n) H1 := by
    refine r1'.put (k := mq_N h) r1.1 rfl (fun _ => rfl) (fun j hj => ⟨by funext i; exact if_neg hj, rfl, rfl⟩) ?_ (by rw [zz, hz0]) (fun q hq => ?_) (fun m j e => ?_) (fun j b hj => ?_)
    · have eS : mq_sh (mq_cpI (mq_new h (.inr (0, n)) n) a0 (mq_N h) 0 0 n) (mq_N h) = .inr (0, n) := if_pos rfl
      unfold mq_cell
      rw [eS]
      refine ⟨by decide, ?_⟩
      rw [ead, ee]
      unfold mq_adt
      rw [eI']
      show some (arrV _ n (fun j => .int (mq_I h a0 j))) = some (arrV _ n (fun j => .int (va_cpy (mq_I h a0) (fun _ => 0) 0 0 n j)))
      congr 1
      apply mq_arrV_cong
      intro j hj
      unfold va_cpy
      rw [if_pos ⟨Nat.zero_le _, by omega⟩]
      simp
    · rw [ead] at hq
      by_cases hlt2 : q < H.size
      · rw [oo q hlt2, Array.getElem?_push, if_neg (Nat.ne_of_lt hlt2)]
      · rw [Array.getElem?_eq_none (by rw [zz]; omega), Array.getElem?_eq_none (by rw [hz0]; omega)]
    · have : mq_sh (mq_new h (.inr (0, n)) n) (mq_N h) = .inr (0, n) := if_pos rfl
      rw [this] at e
      cases e
    · exact (r1'.2.2.2.2.2.2.2.2 _ j b hj).1
  have hne : ∀ k', k' < 4 → k' ≠ mq_N h := fun k' hk' => by have := r1.1; omega
  have hx4 : ∀ k', k' < 4 → H1[g.2.1 k']? = H[g.2.1 k']? := fun k' hk' => oo _ (by have := r1.2.2.1 k' hk'; have := r1.2.1; omega)
  have KK := K (by rw [eN]; omega) (by rw [eZ]; omega) H1 ls locs r1'' (r2.kept (fun k' hk' => if_neg (hne k' hk')) (fun k' m hk' _ => by funext j; exact (if_neg (hne k' hk')).trans (if_neg (hne k' hk'))) hx4) r3 ⟨Nat.le_trans r4.1 (by omega), fun q g1 g2 => (oo q (Nat.lt_of_lt_of_le g1 r4.1)).trans (r4.2.1 q g1 g2), r4.2.2⟩
  simp only [List.map_cons, mq_cv, ead] at KK
  rw [eN, eZ, show mq_N h + 1 - n0 = mq_N h - n0 + 1 by omega, show mq_Z h + n - z0 = mq_Z h - z0 + n by omega] at KK
  obtain ⟨t, b1, b2⟩ := KK ((T0.setVm vm').pushCell (vp_cell (g.2.2.2 0) (n, .inl (mq_I h a0)))) (by rw [← hH1, ← hT]; rfl) X'
  refine ⟨t, st t ?_, b2⟩
  rw [hcellE, hT]
  exact b1
end MQ4
end
section
/-! a run only makes cells -/
def mq_le (h h' : mq_H) : Prop := mq_N h ≤ mq_N h' ∧ mq_Z h ≤ mq_Z h'
theorem mq_le.rf (h : mq_H) : mq_le h h := ⟨Nat.le_refl _, Nat.le_refl _⟩
theorem mq_le.tr {a b c : mq_H} (h1 : mq_le a b) (h2 : mq_le b c) : mq_le a c := ⟨Nat.le_trans h1.1 h2.1, Nat.le_trans h1.2 h2.2⟩
theorem mq_gfN {T : mq_T} {h h' : mq_H} {v : Value} {ci k kind nx pc' : Nat} {L L' : mq_L} {r st' : List Value} {g : Option Bool} (hs : mq_gf T h v ci k kind nx L r = some (.inl (g, pc', L', st', h'))) : mq_le h h' := by
  unfold mq_gf at hs
  simp only [Bool.cond_eq_ite] at hs
  repeat' split at hs
  all_goals first | (cases hs; done) | (cases hs; exact mq_le.rf _)
theorem mq_pfN {T : mq_T} {h h' : mq_H} {x v : Value} {ci k kind nx pc' : Nat} {L L' : mq_L} {r st' : List Value} {g : Option Bool} (hs : mq_pf T h x v ci k kind nx L r = some (.inl (g, pc', L', st', h'))) : mq_le h h' := by
  unfold mq_pf at hs
  repeat' split at hs
  all_goals first | (cases hs; done) | (cases hs; exact mq_le.rf _)
theorem mq_copyN {T : mq_T} {h h' : mq_H} {ty nx pc' : Nat} {L L' : mq_L} {st st' : List Value} {g : Option Bool} (hs : mq_copy T h ty nx L st = some (.inl (g, pc', L', st', h'))) : mq_le h h' := by
  unfold mq_copy at hs
  simp only [Bool.cond_eq_ite] at hs
  repeat' split at hs
  all_goals first | (cases hs; done) | (cases hs; exact mq_le.rf _)
set_option maxHeartbeats 4000000 in
theorem mq_stepN {T : mq_T} {ins : Instr} {pc nx a b c pc' : Nat} {k : Int32} {L L' : mq_L} {st st' : List Value} {h h' : mq_H} {g : Option Bool} (hs : mq_step T ins pc nx a b c k L st h = some (.inl (g, pc', L', st', h'))) : mq_le h h' := by
  have hnew : ∀ sh z, mq_le h (mq_new h sh z) := fun sh z => ⟨Nat.le_succ _, Nat.le_add_right _ _⟩
  cases ins <;> dsimp only [mq_step] at hs
  all_goals first
    | (cases hs; done)
    | (cases hs; exact mq_le.rf _)
    | (cases hs; exact hnew _ _)
    | (unfold mq_ldI at hs; split at hs <;> cases hs <;> exact mq_le.rf _)
    | (unfold mq_ldJ at hs; split at hs <;> cases hs <;> exact mq_le.rf _)
    | (unfold mq_ldA at hs; split at hs <;> cases hs <;> exact mq_le.rf _)
    | (unfold mq_stI at hs; split at hs <;> cases hs <;> exact mq_le.rf _)
    | (unfold mq_stJ at hs; split at hs <;> cases hs <;> exact mq_le.rf _)
    | (unfold mq_stA at hs; split at hs <;> cases hs <;> exact mq_le.rf _)
    | (unfold mq_c0 at hs; split at hs <;> cases hs)
    | (unfold mq_cr at hs; split at hs <;> cases hs)
    | (split at hs <;> first | (cases hs; done) | exact mq_gfN hs)
    | (split at hs <;> first | (cases hs; done) | exact mq_pfN hs)
    | ((try simp only [Bool.cond_eq_ite, mq_ivS, mq_ivI, mq_ivV, mq_mx, mq_mi, mq_chr, mq_cln] at hs); repeat' split at hs
       all_goals first | (cases hs; done) | exact mq_copyN hs | (cases hs; exact ⟨Nat.le_succ _, Nat.le_add_right _ _⟩) | (cases hs; exact mq_le.rf _) | (cases hs; exact hnew _ _))
theorem mq_afN {P : mq_P} {rn : Nat → Nat → mq_L → List Value → mq_H → Option (Option Value × mq_H)} (hrn : ∀ m pc L st h v h', rn m pc L st h = some (v, h') → mq_le h h') {m : Nat} {L : mq_L} {h h' : mq_H} {v : Option Value} {X : Option mq_X} (hX : ∀ g pc' L' st' h2, X = some (.inl (g, pc', L', st', h2)) → mq_le h h2) (hs : mq_af P rn m L h X = some (v, h')) : mq_le h h' := by
  unfold mq_af at hs
  split at hs
  · cases hs
  · rename_i g pc' L' st' h2
    cases hg : mq_gB g with
    | false => rw [hg] at hs; cases hs
    | true => rw [hg] at hs; exact (hX _ _ _ _ _ rfl).tr (hrn _ _ _ _ _ _ _ hs)
  · exact hrn _ _ _ _ _ _ _ hs
  · rename_i g o pc' st'
    cases hg : mq_gB g with
    | false => rw [hg] at hs; cases hs
    | true => rw [hg] at hs; exact hrn _ _ _ _ _ _ _ hs
  · exact hrn _ _ _ _ _ _ _ hs
  · rename_i g m' as st' pc'
    cases hg : mq_gB g with
    | false => rw [hg] at hs; cases hs
    | true =>
      rw [hg] at hs
      dsimp only [cond_true] at hs
      split at hs
      · cases hs
      · split at hs
        · rename_i v1 h1 hr1
          exact (hrn _ _ _ _ _ _ _ hr1).tr (hrn _ _ _ _ _ _ _ hs)
        · cases hs
  · rename_i g v'
    cases hg : mq_gB g with
    | false => rw [hg] at hs; cases hs
    | true => rw [hg] at hs; cases hs; exact mq_le.rf _
theorem mq_runN {P : mq_P} {T : mq_T} : ∀ (f m pc : Nat) (L : mq_L) (st : List Value) (h : mq_H) (v : Option Value) (h' : mq_H), mq_run P T f m pc L st h = some (v, h') → mq_le h h'
  | 0, _, _, _, _, _, _, _, hs => by cases hs
  | f + 1, m, pc, L, st, h, v, h', hs => by
    have hs : mq_body P T (mq_run P T f) m pc L st h = some (v, h') := hs
    unfold mq_body at hs
    split at hs
    · cases hs
    · exact mq_afN (mq_runN f) (fun g pc' L' st' h2 e => mq_stepN e) hs
end
section
/-! ONE STEP, all instructions but calls and returns -/
section MQ5
variable {g : mq_GH} {T : mq_T} {p : Program} {l : Launch} {e : Env} {R : Room} {s : State} {mid : MethodId} {args : Array Value} {below : List Frame} {meth : Method} {c : Code} {Q : State → Prop} {n0 z0 nL : Nat}
variable {y : MethodName} {bs : ByteArray} {ret : Option FieldType} {fr lo : Nat} {pc pc' : Nat} {L : mq_L} {st st' r : List Value} {h h' : mq_H}
theorem mq_good.of (hw : mq_stc T h → mq_good g T p l e R s mid args below meth c Q n0 z0 nL pc L st h) : mq_good g T p l e R s mid args below meth c Q n0 z0 nL pc L st h := fun a b H ls locs h1 h2 h3 h4 => hw h1.2.2.2.2.2.2.2 a b H ls locs h1 h2 h3 h4
theorem mq_gB_an {o : Option Bool} {x : Bool} (h : mq_gB (mq_an o x) = true) : mq_gB o = true ∧ x = true := by
  cases o with
  | none => exact ⟨rfl, h⟩
  | some b => simp only [mq_an, mq_gB, Bool.and_eq_true] at h; exact h
theorem mq_isO_spec {sh : mq_S} {ci : Nat} (h : mq_isO sh ci = true) : sh = .inl ci := by
  unfold mq_isO at h
  split at h
  · rw [Nat.eq_of_beq_eq_true h]
  · cases h
theorem mq_inb_spec {i : Int32} {n : Nat} (h : mq_inb i n = true) : vp_in i n := vp_in_iff.mpr (of_decide_eq_true h)
theorem mq_gA_spec {sh : mq_S} {ty : Nat} {i : Int32} (h : mq_gA sh ty i = true) : ∃ n, sh = .inr (ty, n) ∧ vp_in i n := by
  unfold mq_gA at h
  split at h
  · rename_i t n
    rw [Bool.and_eq_true] at h
    rw [Nat.eq_of_beq_eq_true h.1]
    exact ⟨n, rfl, mq_inb_spec h.2⟩
  · cases h
theorem mq_bif_t {α : Type} {b : Bool} {x : α} {z : α} (h : (bif b then some x else none) = some z) : b = true ∧ x = z := by
  cases b with
  | true => exact ⟨rfl, Option.some.inj h⟩
  | false => cases h
theorem mq_ob_spec (hst : mq_stc T h) {v : Value} {ci a : Nat} {o : Option Bool} (ho : mq_ob T h v ci = some (o, a)) (hg : mq_gB o = true) : mq_sh h a = .inl ci ∧ mq_cv g v = .ref (mq_ad g a) ∧ (v = .retAddr a ∨ v = .ref a) := by
  unfold mq_ob at ho
  split at ho
  · split at ho
    · rename_i a' c' hT
      obtain ⟨h1, h2⟩ := mq_bif_t ho
      cases h2
      rw [← Nat.eq_of_beq_eq_true h1]
      exact ⟨(hst.1 _ _ hT).1, rfl, Or.inl rfl⟩
    · cases ho
  · cases ho
    exact ⟨mq_isO_spec hg, rfl, Or.inr rfl⟩
  · cases ho
theorem mq_ar_spec (hst : mq_stc T h) {v : Value} {ty a : Nat} {i : Int32} {b : Bool} (ho : mq_ar T h v ty i = some (b, a)) (hg : b = true) : ∃ n, mq_sh h a = .inr (ty, n) ∧ vp_in i n ∧ mq_cv g v = .ref (mq_ad g a) := by
  unfold mq_ar at ho
  split at ho
  · split at ho
    · rename_i a' t n hT
      obtain ⟨h1, h2⟩ := mq_bif_t ho
      cases h2
      rw [← Nat.eq_of_beq_eq_true h1]
      exact ⟨n, (hst.1 _ _ hT).1, mq_inb_spec hg, rfl⟩
    · cases ho
  · cases ho
    obtain ⟨n, h1, h2⟩ := mq_gA_spec hg
    exact ⟨n, h1, h2, rfl⟩
  · cases ho
theorem mq_rf_spec (hst : mq_stc T h) {v : Value} {a : Nat} {sh : mq_S} (ho : mq_rf T h v = some (a, sh)) : mq_sh h a = sh ∧ mq_cv g v = .ref (mq_ad g a) := by
  unfold mq_rf at ho
  split at ho
  · split at ho
    · rename_i s' hT
      cases ho
      exact ⟨(hst.1 _ _ hT).1, rfl⟩
    · cases ho
  · cases ho
    exact ⟨rfl, rfl⟩
  · cases ho
theorem mq_noT (hst : mq_stc T h) {a : Nat} {x : Nat × Nat} (hs : mq_sh h a = .inr x) (j : Nat) : T.2 a j = none := by
  cases hq : T.2 a j with
  | none => rfl
  | some b =>
    obtain ⟨-, ci, h2⟩ := hst.2 a j b hq
    rw [(hst.1 _ _ h2).1] at hs
    cases hs
theorem mq_gC_spec {s0 s1 : mq_S} {ty : Nat} {sp dp n : Int32} (h : mq_gC s0 s1 ty sp dp n = true) : ∃ m0 m1, s0 = .inr (ty, m0) ∧ s1 = .inr (ty, m1) ∧ 0 ≤ sp.toInt ∧ 0 ≤ dp.toInt ∧ 0 ≤ n.toInt ∧ sp.toInt + n.toInt ≤ (m0 : Int) ∧ dp.toInt + n.toInt ≤ (m1 : Int) := by
  unfold mq_gC at h
  split at h
  · rename_i t0 m0 t1 m1
    rw [Bool.and_eq_true, Bool.and_eq_true, decide_eq_true_eq] at h
    rw [Nat.eq_of_beq_eq_true h.1, Nat.eq_of_beq_eq_true h.2.1]
    exact ⟨m0, m1, rfl, rfl, h.2.2⟩
  · cases h
theorem mq_bit_spec {x : Int32} (h : mq_bit x = true) : x = 0 ∨ x = 1 := of_decide_eq_true h
/-- what may be stored in a field of a kind -/
theorem mq_fit0 {t : FieldType} (hk : mq_knd t = 0) (x : Int32) : narrow t (.int x) = .int x ∧ fits t (.int x) = true := by
  cases t <;> first | exact ⟨rfl, rfl⟩ | (simp [mq_knd] at hk)
theorem mq_fit1 {t : FieldType} (hk : mq_knd t = 1) (x : Int64) : narrow t (.long x) = .long x ∧ fits t (.long x) = true := by
  cases t <;> first | exact ⟨rfl, rfl⟩ | (simp [mq_knd] at hk)
theorem mq_fit3 {t : FieldType} (hk : mq_knd t = 3) {x : Int32} (hx : x = 0 ∨ x = 1) : narrow t (.int x) = .int x ∧ fits t (.int x) = true := by
  rcases hx with rfl | rfl <;> cases t <;> first | exact ⟨by decide, by decide⟩ | (simp [mq_knd] at hk)
theorem mq_fit2 {t : FieldType} (hk : mq_knd t = 2) (o : Option Nat) : narrow t (va_rf o) = va_rf o ∧ fits t (va_rf o) = true := by
  cases o <;> cases t <;> first | exact ⟨rfl, rfl⟩ | (simp [mq_knd] at hk)
theorem mq_rv_spec {x : Value} {o : Option Nat} (h : mq_rv x = some o) : mq_cv g x = va_rf (o.map (mq_ad g)) := by
  unfold mq_rv at h
  split at h <;> cases h <;> rfl
theorem sd_gfA {i ci k kd nx : Nat} {v : Value} {q : vw_C} {X : mq_X} (C : mq_ctx g p R s mid args meth c y bs nL ret fr lo) (hd : decode bs pc = .ok (.getfield i, 3)) (hnx : nx = pc + 3) (hq : mq_cl[ci]? = some q) (hk : k < q.2.2) (hlink : Cond.fieldLink y.cls i (q.2.1 k).1 (q.2.1 k).2.1 (q.2.1 k).2.2.1 ∈ mq_gw) (hkd : mq_knd (mq_fty ci k) = kd) (hX : mq_gf T h v ci k kd nx L r = some X) :
    (∃ o w, X = .inl (o, nx, L, w :: r, h) ∧ (mq_gB o = true → mq_good g T p l e R s mid args below meth c Q n0 z0 nL nx L (w :: r) h → mq_good g T p l e R s mid args below meth c Q n0 z0 nL pc L (v :: r) h)) ∨ (∃ o z, X = .inr (.inr (.inl (o, z, nx, r))) ∧ (mq_gB o = true → mq_good g T p l e R s mid args below meth c Q n0 z0 nL nx L (mq_pv z :: r) h → mq_good g T p l e R s mid args below meth c Q n0 z0 nL pc L (v :: r) h)) := by
  subst hnx
  have f1 : ∀ a, kd = 1 → mq_fv g h a ci k = .long (mq_J h a k) := fun a e => by unfold mq_fv; rw [hkd, e]; rfl
  have f2 : ∀ a, kd = 2 → mq_fv g h a ci k = va_rf ((mq_R h a k).map (mq_ad g)) := fun a e => by unfold mq_fv; rw [hkd, e]; rfl
  have f0 : ∀ a, kd ≠ 1 → kd ≠ 2 → mq_fv g h a ci k = .int (mq_I h a k) := fun a e1 e2 => by
    unfold mq_fv
    rw [hkd]
    split
    · exact absurd rfl e1
    · exact absurd rfl e2
    · rfl
  unfold mq_gf at hX
  split at hX
  · rename_i a
    split at hX
    · rename_i c' hT
      cases hb : Nat.beq c' ci with
      | false => rw [hb] at hX; cases hX
      | true =>
        rw [hb] at hX
        have hc := Nat.eq_of_beq_eq_true hb
        subst hc
        dsimp only [cond_true] at hX
        have hs : mq_stc T h → mq_sh h a = .inl c' := fun z => (z.1 _ _ hT).1
        split at hX
        · cases hX
          exact Or.inl ⟨_, _, rfl, fun _ K => mq_good.of (fun z => sd_gf (w := .long (mq_J h a k)) C hd hq hk hlink (hs z) rfl (f1 a rfl).symm K)⟩
        · split at hX
          · rename_i b hT2
            cases hX
            exact Or.inl ⟨_, _, rfl, fun _ K => mq_good.of (fun z => sd_gf (w := .retAddr b) C hd hq hk hlink (hs z) rfl (by rw [f2 a rfl, (z.2 a k b hT2).1]; rfl) K)⟩
          · cases hX
            exact Or.inr ⟨_, _, rfl, fun _ K => mq_good.of (fun z => sd_gf C hd hq hk hlink (hs z) rfl (by rw [mq_pv_cv, f2 a rfl]) K)⟩
        · rename_i n1 n2
          cases hX
          exact Or.inl ⟨_, _, rfl, fun _ K => mq_good.of (fun z => sd_gf (w := .int (mq_I h a k)) C hd hq hk hlink (hs z) rfl (f0 a (fun e => n1 e) (fun e => n2 e)).symm K)⟩
    · cases hX
  · rename_i a
    split at hX
    · cases hX
      exact Or.inl ⟨_, _, rfl, fun hg K => sd_gf (w := .long (mq_J h a k)) C hd hq hk hlink (mq_isO_spec hg) rfl (f1 a rfl).symm K⟩
    · cases hX
      exact Or.inr ⟨_, _, rfl, fun hg K => sd_gf C hd hq hk hlink (mq_isO_spec hg) rfl (by rw [mq_pv_cv, f2 a rfl]) K⟩
    · rename_i n1 n2
      cases hX
      exact Or.inl ⟨_, _, rfl, fun hg K => sd_gf (w := .int (mq_I h a k)) C hd hq hk hlink (mq_isO_spec hg) rfl (f0 a (fun e => n1 e) (fun e => n2 e)).symm K⟩
  · cases hX
/-- the picture of an object when one field is written -/
theorem mq_newI {a ci k : Nat} {x : Int32} (h1 : ¬ mq_knd (mq_fty ci k) = 1) (h2 : ¬ mq_knd (mq_fty ci k) = 2) (j : Nat) : mq_fv g (mq_setI h a k x) a ci j = updV (fun j => mq_fv g h a ci j) k (.int x) j := by
  unfold updV
  by_cases e : j = k
  · subst e
    rw [if_pos rfl]
    unfold mq_fv
    split
    · rename_i z; exact absurd z h1
    · rename_i z; exact absurd z h2
    · rw [mq_setI_self]; simp [upd]
  · rw [if_neg e]
    unfold mq_fv
    rw [mq_setI_self, show upd (mq_I h a) k x j = mq_I h a j by simp [upd, e]]
    rfl
theorem mq_newJ {a ci k : Nat} {x : Int64} (h1 : mq_knd (mq_fty ci k) = 1) (j : Nat) : mq_fv g (mq_setJ h a k x) a ci j = updV (fun j => mq_fv g h a ci j) k (.long x) j := by
  unfold updV
  by_cases e : j = k
  · subst e
    rw [if_pos rfl]
    unfold mq_fv
    rw [h1, mq_setJ_self]
    simp [vp_updL]
  · rw [if_neg e]
    unfold mq_fv
    rw [mq_setJ_self, show vp_updL (mq_J h a) k x j = mq_J h a j by simp [vp_updL, e]]
    rfl
theorem mq_newR {a ci k : Nat} {o : Option Nat} (h2 : mq_knd (mq_fty ci k) = 2) (j : Nat) : mq_fv g (mq_setR h a k o) a ci j = updV (fun j => mq_fv g h a ci j) k (va_rf (o.map (mq_ad g))) j := by
  unfold updV
  by_cases e : j = k
  · subst e
    rw [if_pos rfl]
    unfold mq_fv
    rw [h2, mq_setR_self, if_pos rfl]
    try rfl
  · rw [if_neg e]
    unfold mq_fv
    rw [mq_setR_self, if_neg e]
    rfl
theorem sd_pfA {i ci k kd nx : Nat} {v x : Value} {q : vw_C} {X : mq_X} (C : mq_ctx g p R s mid args meth c y bs nL ret fr lo) (hd : decode bs pc = .ok (.putfield i, 3)) (hnx : nx = pc + 3) (hq : mq_cl[ci]? = some q) (hk : k < q.2.2) (hlink : Cond.fieldLink y.cls i (q.2.1 k).1 (q.2.1 k).2.1 (q.2.1 k).2.2.1 ∈ mq_gw) (hfin : (q.2.1 k).2.2.2 = false ∨ (y.name = "<init>" ∧ (q.2.1 k).1 = y.cls)) (hkd : mq_knd (mq_fty ci k) = kd) (hX : mq_pf T h x v ci k kd nx L r = some X) :
    ∃ o h', X = .inl (o, nx, L, r, h') ∧ (mq_gB o = true → mq_good g T p l e R s mid args below meth c Q n0 z0 nL nx L r h' → mq_good g T p l e R s mid args below meth c Q n0 z0 nL pc L (x :: v :: r) h) := by
  subst hnx
  unfold mq_pf at hX
  split at hX
  · cases hX
  · rename_i o a hob
    split at hX
    · split at hX
      · rename_i z
        cases hX
        refine ⟨_, _, rfl, fun hg K => mq_good.of (fun w => ?_)⟩
        obtain ⟨q1, q2, -⟩ := mq_ob_spec (g := g) w hob hg
        exact sd_pf (h' := mq_setJ h a k z) C hd hq hk hlink hfin q1 q2 (mq_fit1 hkd z).1 (mq_fit1 hkd z).2 rfl rfl (fun _ => rfl) (fun j hj => ⟨rfl, mq_setJ_ne hj _ _, rfl⟩) (fun j => mq_newJ hkd j) (fun t => t) K
      · cases hX
    · split at hX
      · rename_i z hz
        split at hX
        · rename_i g2 hg2
          cases hX
          refine ⟨_, _, rfl, fun hg K => mq_good.of (fun w => ?_)⟩
          have hcx := mq_rv_spec (g := g) hz
          have ht : mq_gB o = true ∧ ((∀ j b, T.2 a j = some b → mq_R h a j = some b) → ∀ j b, T.2 a j = some b → mq_R (mq_setR h a k z) a j = some b) := by
            unfold mq_wg at hg2
            split at hg2
            · rename_i a'
              split at hg2
              · cases hg2
              · rename_i hT2
                cases hg2
                refine ⟨hg, fun t j b hj => ?_⟩
                have ha : a' = a := by
                  rcases (mq_ob_spec (g := g) w hob hg).2.2 with e | e
                  · cases e; rfl
                  · cases e
                subst ha
                rw [mq_setR_self]
                by_cases ejk : j = k
                · subst ejk; rw [hT2] at hj; cases hj
                · rw [if_neg ejk]; exact t j b hj
            · rename_i a'
              cases hg2
              obtain ⟨hg3, hn⟩ := mq_gB_an hg
              refine ⟨hg3, fun t j b hj => ?_⟩
              have ha : a' = a := by
                rcases (mq_ob_spec (g := g) w hob hg3).2.2 with e | e
                · cases e
                · cases e; rfl
              subst ha
              obtain ⟨-, ci', h3⟩ := w.2 a' j b hj
              rw [h3] at hn
              cases hn
            · cases hg2
          obtain ⟨q1, q2, -⟩ := mq_ob_spec (g := g) w hob ht.1
          exact sd_pf (h' := mq_setR h a k z) C hd hq hk hlink hfin q1 q2 (by rw [hcx]; exact (mq_fit2 hkd _).1) (by rw [hcx]; exact (mq_fit2 hkd _).2) rfl rfl (fun _ => rfl) (fun j hj => ⟨rfl, rfl, mq_setR_ne hj _ _⟩) (fun j => by rw [hcx]; exact mq_newR hkd j) ht.2 K
        · cases hX
      · cases hX
    · split at hX
      · rename_i z
        cases hX
        refine ⟨_, _, rfl, fun hg K => mq_good.of (fun w => ?_)⟩
        obtain ⟨hg1, hg2⟩ := mq_gB_an hg
        obtain ⟨q1, q2, -⟩ := mq_ob_spec (g := g) w hob hg1
        exact sd_pf (h' := mq_setI h a k z) C hd hq hk hlink hfin q1 q2 (mq_fit3 hkd (mq_bit_spec hg2)).1 (mq_fit3 hkd (mq_bit_spec hg2)).2 rfl rfl (fun _ => rfl) (fun j hj => ⟨mq_setI_ne hj _ _, rfl, rfl⟩) (fun j => mq_newI (by rw [hkd]; decide) (by rw [hkd]; decide) j) (fun t => t) K
      · cases hX
    · rename_i n1 n2 n3
      split at hX
      · rename_i z
        cases hX
        refine ⟨_, _, rfl, fun hg K => mq_good.of (fun w => ?_)⟩
        obtain ⟨q1, q2, -⟩ := mq_ob_spec (g := g) w hob hg
        have hk0 : mq_knd (mq_fty ci k) = 0 := by
          have h9 := (mq_cls hq).2.2.2.1 k hk
          generalize mq_fty ci k = t at hkd h9
          cases t <;> first | rfl | exact absurd hkd.symm n1 | exact absurd hkd.symm n2 | exact absurd hkd.symm n3 | exact absurd rfl h9
        exact sd_pf (h' := mq_setI h a k z) C hd hq hk hlink hfin q1 q2 (mq_fit0 hk0 z).1 (mq_fit0 hk0 z).2 rfl rfl (fun _ => rfl) (fun j hj => ⟨mq_setI_ne hj _ _, rfl, rfl⟩) (fun j => mq_newI (by rw [hk0]; decide) (by rw [hk0]; decide) j) (fun t => t) K
      · cases hX
end MQ5
end
section
/-! ONE STEP: every instruction -/
def mq_sem (A : Nat → mq_L → List Value → mq_H → Prop) (B : Prop) (L : mq_L) (h : mq_H) : mq_X → Prop
  | .inl (o, pc', L', st', h') => mq_gB o = true → A pc' L' st' h' → B
  | .inr (.inl (o, x, z, t, e', st')) => A (bif mq_cmp o x z then t else e') L st' h → B
  | .inr (.inr (.inl (o, w, pc', st'))) => mq_gB o = true → A pc' L (mq_pv w :: st') h → B
  | .inr (.inr (.inr (.inl (x, l, d, st')))) => A (mq_find x l d) L st' h → B
  | _ => True
section MQ6
variable {g : mq_GH} {T : mq_T} {p : Program} {l : Launch} {e : Env} {R : Room} {s : State} {mid : MethodId} {args : Array Value} {below : List Frame} {meth : Method} {c : Code} {Q : State → Prop} {n0 z0 nL : Nat}
variable {y : MethodName} {bs : ByteArray} {ret : Option FieldType} {fr lo : Nat} {pc pc' : Nat} {L : mq_L} {st st' r : List Value} {h h' : mq_H}
theorem sd_ldIA {a nx : Nat} {X : mq_X} (hX : mq_ldI a nx L st h = some X) (hw : ∀ (x : Int32) (H : Heap) (ls : Array Slot) (locs : List Loc) (ce sl : Nat), ls[a]? = some (.val (.int x)) → W p l e R s mid args below meth c H locs ce sl Q (F0 mid nx ls (Value.int x :: st.map (mq_cv g))) → W p l e R s mid args below meth c H locs ce sl Q (F0 mid pc ls (st.map (mq_cv g)))) : mq_sem (mq_good g T p l e R s mid args below meth c Q n0 z0 nL) (mq_good g T p l e R s mid args below meth c Q n0 z0 nL pc L st h) L h X := by
  unfold mq_ldI at hX
  split at hX
  · rename_i x hld
    cases hX
    exact fun _ K => sd_ldI hld (hw x) K
  · cases hX
theorem sd_ldJA {a nx : Nat} {X : mq_X} (hX : mq_ldJ a nx L st h = some X) (hw : ∀ (x : Int64) (H : Heap) (ls : Array Slot) (locs : List Loc) (ce sl : Nat), ls[a]? = some (.val (.long x)) → W p l e R s mid args below meth c H locs ce sl Q (F0 mid nx ls (Value.long x :: st.map (mq_cv g))) → W p l e R s mid args below meth c H locs ce sl Q (F0 mid pc ls (st.map (mq_cv g)))) : mq_sem (mq_good g T p l e R s mid args below meth c Q n0 z0 nL) (mq_good g T p l e R s mid args below meth c Q n0 z0 nL pc L st h) L h X := by
  unfold mq_ldJ at hX
  split at hX
  · rename_i x hld
    cases hX
    exact fun _ K => sd_ldJ hld (hw x) K
  · cases hX
theorem sd_ldAA {a nx : Nat} {X : mq_X} (hX : mq_ldA a nx L st h = some X) (hw : ∀ (x : Nat) (H : Heap) (ls : Array Slot) (locs : List Loc) (ce sl : Nat), ls[a]? = some (.val (.ref x)) → W p l e R s mid args below meth c H locs ce sl Q (F0 mid nx ls (Value.ref x :: st.map (mq_cv g))) → W p l e R s mid args below meth c H locs ce sl Q (F0 mid pc ls (st.map (mq_cv g)))) (hw0 : ∀ (H : Heap) (ls : Array Slot) (locs : List Loc) (ce sl : Nat), ls[a]? = some (.val .null) → W p l e R s mid args below meth c H locs ce sl Q (F0 mid nx ls (Value.null :: st.map (mq_cv g))) → W p l e R s mid args below meth c H locs ce sl Q (F0 mid pc ls (st.map (mq_cv g)))) : mq_sem (mq_good g T p l e R s mid args below meth c Q n0 z0 nL) (mq_good g T p l e R s mid args below meth c Q n0 z0 nL pc L st h) L h X := by
  unfold mq_ldA at hX
  split at hX
  · rename_i x hld
    cases hX
    exact fun _ K => sd_ldA hld (fun H ls locs ce sl => hw (mq_ad g x) H ls locs ce sl) K
  · rename_i x hld
    cases hX
    exact fun _ K => sd_ldA hld (fun H ls locs ce sl => hw (mq_ad g x) H ls locs ce sl) K
  · rename_i hld
    cases hX
    exact fun _ K => sd_ldA hld (fun H ls locs ce sl => hw0 H ls locs ce sl) K
  · cases hX
theorem mq_isA_spec {sh : mq_S} (h : mq_isA sh = true) : ∃ t n, sh = .inr (t, n) ∧ t ≤ 9 := by
  unfold mq_isA at h
  split at h
  · rename_i t n
    exact ⟨t, n, rfl, Nat.le_of_ble_eq_true h⟩
  · cases h
set_option maxHeartbeats 8000000 in
theorem mq_sound1 {P : mq_P} {nM nx a b c' j : Nat} {ins : Instr} {k : Int32} {X : mq_X} (C : mq_ctx g p R s mid args meth c y bs nL ret fr lo) (hde : mq_isSw ins = true → decode bs pc = .ok (ins, nx - pc)) (hdn : mq_isSw ins = false → decode bs pc = .ok (ins, mq_ln ins) ∧ nx = pc + mq_ln ins) (hok : mq_okX P nM y nL ret fr lo ins pc a b c' k j = true) (hs : mq_step T ins pc nx a b c' k L st h = some X) (hcap : ∀ o pc' L' st' h', X = .inl (o, pc', L', st', h') → mq_N h' - n0 ≤ R.cells ∧ mq_Z h' - z0 ≤ R.slots) : mq_sem (mq_good g T p l e R s mid args below meth c Q n0 z0 nL) (mq_good g T p l e R s mid args below meth c Q n0 z0 nL pc L st h) L h X := by
  obtain ⟨hx, hb, hml, hr, hown, hnm, hlk, hfr, hlo, hts, hK, hNw, hA1, ⟨hA2, hOs⟩, hgs⟩ := id C
  cases ins
  case iconst n =>
    obtain ⟨hd, rfl⟩ := hdn rfl
    cases hs
    exact fun _ K => mq_good.sk (fun H ls locs ce sl _ _ _ _ kk => lv_iconst hx hb hd (of_decide_eq_true hok) kk) K
  case bipush n =>
    obtain ⟨hd, rfl⟩ := hdn rfl
    cases hs
    exact fun _ K => mq_good.sk (fun H ls locs ce sl _ _ _ _ kk => lv_bipush hx hb hd (of_decide_eq_true hok) kk) K
  case sipush n =>
    obtain ⟨hd, rfl⟩ := hdn rfl
    cases hs
    exact fun _ K => mq_good.sk (fun H ls locs ce sl _ _ _ _ kk => lv_sipush hx hb hd (of_decide_eq_true hok) kk) K
  case ldc n =>
    obtain ⟨hd, rfl⟩ := hdn rfl
    dsimp only [mq_step] at hs
    dsimp only [mq_okX] at hok
    cases hb1 : Nat.beq b 1 with
    | true =>
      rw [hb1] at hs hok
      cases hs
      obtain ⟨e1, e2⟩ := of_decide_eq_true hok
      obtain ⟨aV, -, k2, -⟩ := hOs
      subst e2
      exact fun _ K => mq_good.sk (fun H ls locs ce sl _ _ _ _ kk => va_ldcS hx hb (own := "RanOut$Reader") (by rw [← e1]; exact hown) k2 hd kk) K
    | false =>
      rw [hb1] at hs hok
      cases hs
      exact fun _ K => mq_good.sk (fun H ls locs ce sl _ _ _ _ kk => lv_ldc hx hb hown (hts _ (mq_hw_in hok)) hd kk) K
  case getstatic n =>
    obtain ⟨hd, rfl⟩ := hdn rfl
    cases hs
    obtain ⟨e1, e2⟩ := of_decide_eq_true hok
    obtain ⟨aV, k1, -, k3, -⟩ := hOs
    subst e2
    exact fun _ K => mq_good.sk (fun H ls locs ce sl _ _ _ r4 kk => va_getsN hx hb k1.1 r4 (own := "RanOut$Reader") (by rw [← e1]; exact hown) (va_Nw.use rfl k3) (fun _ z => z) hd kk) K
  case checkcast n =>
    obtain ⟨hd, rfl⟩ := hdn rfl
    dsimp only [mq_step] at hs
    split at hs
    · rename_i x r
      cases hs
      intro hg K
      refine mq_good.sk (fun H ls locs ce sl r1 _ _ _ kk => ?_) K
      obtain ⟨n', hsh⟩ : ∃ n', mq_sh h x = .inr (0, n') := by
        have hg : mq_s0 (mq_sh h x) = true := hg
        unfold mq_s0 at hg
        split at hg
        · rename_i n' e; exact ⟨n', e⟩
        · cases hg
      obtain ⟨-, -, hc⟩ := r1.arr hsh (by decide)
      exact va_castA hx hb hown (hts _ (mq_hw_in hok)) (ws := [(mq_ad g x, .inl (g.2.2.2 0, n', mq_adt g h x 0))]) (D := g.2.2.1) (cl := mq_cl) (fun k q hk => by
        match k, hk with
        | 0, hk => cases hk; exact hc
        | n + 1, hk => simp at hk) 0 rfl (hK.2 0 _ rfl).2 hd kk
    · cases hs
  case ldc_w n =>
    obtain ⟨hd, rfl⟩ := hdn rfl
    cases hs
    exact fun _ K => mq_good.sk (fun H ls locs ce sl _ _ _ _ kk => lv_ldcw hx hb hown (hts _ (mq_hw_in hok)) hd kk) K
  case ldc2_w n =>
    obtain ⟨hd, rfl⟩ := hdn rfl
    cases hs
    exact fun _ K => mq_good.sk (fun H ls locs ce sl _ _ _ _ kk => lv_ldc2 hx hb hown (hts _ (mq_hw_in hok)) hd kk) K
  case lconst n =>
    obtain ⟨hd, rfl⟩ := hdn rfl
    cases hs
    exact fun _ K => mq_good.sk (fun H ls locs ce sl _ _ _ _ kk => lv_lconst hx hb hd (of_decide_eq_true hok) kk) K
  case aconst_null =>
    obtain ⟨hd, rfl⟩ := hdn rfl
    cases hs
    exact fun _ K => mq_good.sk (fun H ls locs ce sl _ _ _ _ kk => lv_null hx hb hd kk) K
  case iload_n i =>
    obtain ⟨hd, rfl⟩ := hdn rfl
    exact sd_ldIA hs (fun x H ls locs ce sl hl kk => lv_iload_n hx hb hd (of_decide_eq_true hok) hl kk)
  case iload i =>
    obtain ⟨hd, rfl⟩ := hdn rfl
    cases of_decide_eq_true hok
    exact sd_ldIA hs (fun x H ls locs ce sl hl kk => lv_iload hx hb hd hl kk)
  case lload_n i =>
    obtain ⟨hd, rfl⟩ := hdn rfl
    exact sd_ldJA hs (fun x H ls locs ce sl hl kk => lv_lload_n hx hb hd (of_decide_eq_true hok) hl kk)
  case lload i =>
    obtain ⟨hd, rfl⟩ := hdn rfl
    cases of_decide_eq_true hok
    exact sd_ldJA hs (fun x H ls locs ce sl hl kk => lv_lload hx hb hd hl kk)
  case aload_n i =>
    obtain ⟨hd, rfl⟩ := hdn rfl
    exact sd_ldAA hs (fun x H ls locs ce sl hl kk => lv_aload_n hx hb hd (of_decide_eq_true hok) hl kk) (fun H ls locs ce sl hl kk => lv_aload_nN hx hb hd (of_decide_eq_true hok) hl kk)
  case aload i =>
    obtain ⟨hd, rfl⟩ := hdn rfl
    cases of_decide_eq_true hok
    exact sd_ldAA hs (fun x H ls locs ce sl hl kk => lv_aload hx hb hd hl kk) (fun H ls locs ce sl hl kk => lv_aloadN hx hb hd hl kk)
  case istore_n i =>
    obtain ⟨hd, rfl⟩ := hdn rfl
    obtain ⟨h1, h2⟩ := of_decide_eq_true hok
    dsimp only [mq_step] at hs
    unfold mq_stI at hs
    split at hs
    · cases hs
      exact fun _ K => sd_st1 (fun H ls locs ce sl lv hl kk => lv_istore_n hx hb hd h1 hl h2 rfl kk) K
    · cases hs
  case istore i =>
    obtain ⟨hd, rfl⟩ := hdn rfl
    obtain ⟨h1, h2⟩ := of_decide_eq_true hok
    cases h1
    dsimp only [mq_step] at hs
    unfold mq_stI at hs
    split at hs
    · cases hs
      exact fun _ K => sd_st1 (fun H ls locs ce sl lv hl kk => lv_istore hx hb hd hl h2 rfl kk) K
    · cases hs
  case lstore_n i =>
    obtain ⟨hd, rfl⟩ := hdn rfl
    obtain ⟨h1, h2⟩ := of_decide_eq_true hok
    dsimp only [mq_step] at hs
    unfold mq_stJ at hs
    split at hs
    · cases hs
      exact fun _ K => sd_st2 (fun H ls locs ce sl lv hl kk => lv_lstore_n hx hb hd h1 hl h2 rfl kk) K
    · cases hs
  case lstore i =>
    obtain ⟨hd, rfl⟩ := hdn rfl
    obtain ⟨h1, h2⟩ := of_decide_eq_true hok
    cases h1
    dsimp only [mq_step] at hs
    unfold mq_stJ at hs
    split at hs
    · cases hs
      exact fun _ K => sd_st2 (fun H ls locs ce sl lv hl kk => lv_lstore hx hb hd hl h2 rfl kk) K
    · cases hs
  case astore_n i =>
    obtain ⟨hd, rfl⟩ := hdn rfl
    obtain ⟨h1, h2⟩ := of_decide_eq_true hok
    dsimp only [mq_step] at hs
    unfold mq_stA at hs
    split at hs
    · cases hs
      exact fun _ K => sd_st1 (fun H ls locs ce sl lv hl kk => lv_astore_n hx hb hd h1 hl h2 rfl kk) K
    · cases hs
      exact fun _ K => sd_st1 (fun H ls locs ce sl lv hl kk => lv_astore_n hx hb hd h1 hl h2 rfl kk) K
    · cases hs
      exact fun _ K => sd_st1 (fun H ls locs ce sl lv hl kk => lv_astore_nN hx hb hd h1 hl h2 rfl kk) K
    · cases hs
  case astore i =>
    obtain ⟨hd, rfl⟩ := hdn rfl
    obtain ⟨h1, h2⟩ := of_decide_eq_true hok
    cases h1
    dsimp only [mq_step] at hs
    unfold mq_stA at hs
    split at hs
    · cases hs
      exact fun _ K => sd_st1 (fun H ls locs ce sl lv hl kk => lv_astore hx hb hd hl h2 rfl kk) K
    · cases hs
      exact fun _ K => sd_st1 (fun H ls locs ce sl lv hl kk => lv_astore hx hb hd hl h2 rfl kk) K
    · cases hs
      exact fun _ K => sd_st1 (fun H ls locs ce sl lv hl kk => lv_astoreN hx hb hd hl h2 rfl kk) K
    · cases hs
  case iinc i n =>
    obtain ⟨hd, rfl⟩ := hdn rfl
    obtain ⟨h1, h2, h3⟩ := of_decide_eq_true hok
    cases h1
    dsimp only [mq_step] at hs
    split at hs
    · rename_i x hld
      cases hs
      exact fun _ K => sd_iinc hx hb hd h2 h3 hld K
    · cases hs
  case iadd =>
    obtain ⟨hd, rfl⟩ := hdn rfl
    dsimp only [mq_step] at hs
    split at hs
    · cases hs
      exact fun _ K => mq_good.sk (fun H ls locs ce sl _ _ _ _ kk => lv_iadd hx hb hd kk) K
    · cases hs
  case isub =>
    obtain ⟨hd, rfl⟩ := hdn rfl
    dsimp only [mq_step] at hs
    split at hs
    · cases hs
      exact fun _ K => mq_good.sk (fun H ls locs ce sl _ _ _ _ kk => lv_isub hx hb hd kk) K
    · cases hs
  case imul =>
    obtain ⟨hd, rfl⟩ := hdn rfl
    dsimp only [mq_step] at hs
    split at hs
    · cases hs
      exact fun _ K => mq_good.sk (fun H ls locs ce sl _ _ _ _ kk => lv_imul hx hb hd kk) K
    · cases hs
  case iand =>
    obtain ⟨hd, rfl⟩ := hdn rfl
    dsimp only [mq_step] at hs
    split at hs
    · cases hs
      exact fun _ K => mq_good.sk (fun H ls locs ce sl _ _ _ _ kk => lv_iand hx hb hd kk) K
    · cases hs
  case ior =>
    obtain ⟨hd, rfl⟩ := hdn rfl
    dsimp only [mq_step] at hs
    split at hs
    · cases hs
      exact fun _ K => mq_good.sk (fun H ls locs ce sl _ _ _ _ kk => lv_ior hx hb hd kk) K
    · cases hs
  case ixor =>
    obtain ⟨hd, rfl⟩ := hdn rfl
    dsimp only [mq_step] at hs
    split at hs
    · cases hs
      exact fun _ K => mq_good.sk (fun H ls locs ce sl _ _ _ _ kk => lv_ixor hx hb hd kk) K
    · cases hs
  case ishl =>
    obtain ⟨hd, rfl⟩ := hdn rfl
    dsimp only [mq_step] at hs
    split at hs
    · cases hs
      exact fun _ K => mq_good.sk (fun H ls locs ce sl _ _ _ _ kk => lv_ishl hx hb hd kk) K
    · cases hs
  case ishr =>
    obtain ⟨hd, rfl⟩ := hdn rfl
    dsimp only [mq_step] at hs
    split at hs
    · cases hs
      exact fun _ K => mq_good.sk (fun H ls locs ce sl _ _ _ _ kk => lv_ishr hx hb hd kk) K
    · cases hs
  case iushr =>
    obtain ⟨hd, rfl⟩ := hdn rfl
    dsimp only [mq_step] at hs
    split at hs
    · cases hs
      exact fun _ K => mq_good.sk (fun H ls locs ce sl _ _ _ _ kk => lv_iushr hx hb hd rfl kk) K
    · cases hs
  case ineg =>
    obtain ⟨hd, rfl⟩ := hdn rfl
    dsimp only [mq_step] at hs
    split at hs
    · cases hs
      exact fun _ K => mq_good.sk (fun H ls locs ce sl _ _ _ _ kk => lv_ineg hx hb hd kk) K
    · cases hs
  case i2b =>
    obtain ⟨hd, rfl⟩ := hdn rfl
    dsimp only [mq_step] at hs
    split at hs
    · cases hs
      exact fun _ K => mq_good.sk (fun H ls locs ce sl _ _ _ _ kk => lv_i2b hx hb hd rfl kk) K
    · cases hs
  case i2c =>
    obtain ⟨hd, rfl⟩ := hdn rfl
    dsimp only [mq_step] at hs
    split at hs
    · cases hs
      exact fun _ K => mq_good.sk (fun H ls locs ce sl _ _ _ _ kk => lv_i2c hx hb hd rfl kk) K
    · cases hs
  case l2i =>
    obtain ⟨hd, rfl⟩ := hdn rfl
    dsimp only [mq_step] at hs
    split at hs
    · cases hs
      exact fun _ K => mq_good.sk (fun H ls locs ce sl _ _ _ _ kk => lv_l2i hx hb hd rfl kk) K
    · cases hs
  case land =>
    obtain ⟨hd, rfl⟩ := hdn rfl
    dsimp only [mq_step] at hs
    split at hs
    · cases hs
      exact fun _ K => mq_good.sk (fun H ls locs ce sl _ _ _ _ kk => lv_land hx hb hd kk) K
    · cases hs
  case lor =>
    obtain ⟨hd, rfl⟩ := hdn rfl
    dsimp only [mq_step] at hs
    split at hs
    · cases hs
      exact fun _ K => mq_good.sk (fun H ls locs ce sl _ _ _ _ kk => lv_lor hx hb hd kk) K
    · cases hs
  case lushr =>
    obtain ⟨hd, rfl⟩ := hdn rfl
    dsimp only [mq_step] at hs
    split at hs
    · cases hs
      exact fun _ K => mq_good.sk (fun H ls locs ce sl _ _ _ _ kk => lv_lushr hx hb hd rfl kk) K
    · cases hs
  case lshl =>
    obtain ⟨hd, rfl⟩ := hdn rfl
    dsimp only [mq_step] at hs
    split at hs
    · cases hs
      exact fun _ K => mq_good.sk (fun H ls locs ce sl _ _ _ _ kk => lv_lshl hx hb hd rfl kk) K
    · cases hs
  case lcmp =>
    obtain ⟨hd, rfl⟩ := hdn rfl
    dsimp only [mq_step] at hs
    split at hs
    · cases hs
      exact fun _ K => mq_good.sk (fun H ls locs ce sl _ _ _ _ kk => W.lcmp hx hb hd kk) K
    · cases hs
  case idiv =>
    obtain ⟨hd, rfl⟩ := hdn rfl
    dsimp only [mq_step] at hs
    split at hs
    · cases hs
      exact fun hg K => mq_good.sk (fun H ls locs ce sl _ _ _ _ kk => lv_idiv hx hb hd (of_decide_eq_true hg) kk) K
    · cases hs
  case irem =>
    obtain ⟨hd, rfl⟩ := hdn rfl
    dsimp only [mq_step] at hs
    split at hs
    · cases hs
      exact fun hg K => mq_good.sk (fun H ls locs ce sl _ _ _ _ kk => lv_irem hx hb hd (of_decide_eq_true hg) kk) K
    · cases hs
  case dup =>
    obtain ⟨hd, rfl⟩ := hdn rfl
    dsimp only [mq_step] at hs
    split at hs
    · rename_i v r
      obtain ⟨h1, h2⟩ := mq_bif_t hs
      cases h2
      exact fun _ K => mq_good.sk (fun H ls locs ce sl _ _ _ _ kk => lv_dup hx hb hd (by rw [mq_cv_cat]; exact Nat.eq_of_beq_eq_true h1) kk) K
    · cases hs
  case dup2 =>
    obtain ⟨hd, rfl⟩ := hdn rfl
    dsimp only [mq_step] at hs
    split at hs
    · rename_i v w r
      cases h1 : Nat.beq v.category 1 with
      | false => rw [h1] at hs; cases hs
      | true =>
        rw [h1] at hs
        obtain ⟨h2, h3⟩ := mq_bif_t hs
        cases h3
        exact fun _ K => mq_good.sk (fun H ls locs ce sl _ _ _ _ kk => lv_dup2_11 hx hb hd (by rw [mq_cv_cat]; exact Nat.eq_of_beq_eq_true h1) (by rw [mq_cv_cat]; exact Nat.eq_of_beq_eq_true h2) kk) K
    · cases hs
  case pop =>
    obtain ⟨hd, rfl⟩ := hdn rfl
    dsimp only [mq_step] at hs
    split at hs
    · rename_i v r
      obtain ⟨h1, h2⟩ := mq_bif_t hs
      cases h2
      exact fun _ K => mq_good.sk (fun H ls locs ce sl _ _ _ _ kk => lv_pop hx hb hd (by rw [mq_cv_cat]; exact Nat.eq_of_beq_eq_true h1) kk) K
    · cases hs
  case goto o =>
    obtain ⟨hd, rfl⟩ := hdn rfl
    cases hs
    exact fun _ K => mq_good.sk (fun H ls locs ce sl _ _ _ _ kk => lv_goto hx hb hd (of_decide_eq_true hok) kk) K
  case ifCond o off =>
    obtain ⟨hd, rfl⟩ := hdn rfl
    dsimp only [mq_step] at hs
    unfold mq_c0 at hs
    split at hs
    · cases hs
      exact fun K => sd_b0 hx hb hd (of_decide_eq_true hok) K
    · cases hs
  case if_icmp o off =>
    obtain ⟨hd, rfl⟩ := hdn rfl
    dsimp only [mq_step] at hs
    unfold mq_cr at hs
    split at hs
    · cases hs
      exact fun K => sd_br hx hb hd (of_decide_eq_true hok) K
    · cases hs
  case ifnonnull off =>
    obtain ⟨hd, rfl⟩ := hdn rfl
    dsimp only [mq_step] at hs
    split at hs
    · cases hs
      exact fun _ K => mq_good.sk (fun H ls locs ce sl _ _ _ _ kk => lv_ifnonnull hx hb hd (of_decide_eq_true hok) kk) K
    · cases hs
      exact fun _ K => mq_good.sk (fun H ls locs ce sl _ _ _ _ kk => lv_ifnonnull hx hb hd (of_decide_eq_true hok) kk) K
    · cases hs
      exact fun _ K => mq_good.sk (fun H ls locs ce sl _ _ _ _ kk => lv_ifnonnullN hx hb hd kk) K
    · cases hs
  case tableswitch d lo' hi' offs =>
    have hd := hde rfl
    dsimp only [mq_okX] at hok
    rw [Bool.and_eq_true, Bool.and_eq_true] at hok
    dsimp only [mq_step] at hs
    split at hs
    · cases hs
      exact fun K => sd_tsw hx hb hd (of_decide_eq_true hok.1) hok.2.1 (of_decide_eq_true hok.2.2) K
    · cases hs
  case lookupswitch d ps =>
    have hd := hde rfl
    dsimp only [mq_okX] at hok
    rw [Bool.and_eq_true, Bool.and_eq_true, Bool.and_eq_true] at hok
    dsimp only [mq_step] at hs
    split at hs
    · cases hs
      exact fun K => sd_lsw hx hb hd (of_decide_eq_true hok.1) hok.2.1 hok.2.2.1 hok.2.2.2 K
    · cases hs
  case getfield i =>
    obtain ⟨hd, hnx⟩ := hdn rfl
    dsimp only [mq_okX] at hok
    split at hok
    · rename_i q hq
      rw [Bool.and_eq_true, Bool.and_eq_true] at hok
      obtain ⟨h1, h2, h3⟩ := hok
      dsimp only [mq_step] at hs
      split at hs
      · rcases sd_gfA (l := l) (e := e) (below := below) (Q := Q) (n0 := n0) (z0 := z0) C hd hnx hq (by simpa using h1) (mq_hw_in h2) (Nat.eq_of_beq_eq_true h3) hs with ⟨o, w, rfl, K⟩ | ⟨o, z, rfl, K⟩
        · exact K
        · exact K
      · cases hs
    · cases hok
  case putfield i =>
    obtain ⟨hd, hnx⟩ := hdn rfl
    dsimp only [mq_okX] at hok
    split at hok
    · rename_i q hq
      rw [Bool.and_eq_true, Bool.and_eq_true, Bool.and_eq_true] at hok
      obtain ⟨h1, h2, h3, h4⟩ := hok
      have hfin : (q.2.1 b).2.2.2 = false ∨ (y.name = "<init>" ∧ (q.2.1 b).1 = y.cls) := by
        rw [Bool.or_eq_true] at h4
        rcases h4 with h4 | h4
        · left
          cases hz : (q.2.1 b).2.2.2 with
          | false => rfl
          | true => rw [hz] at h4; cases h4
        · exact Or.inr (of_decide_eq_true h4)
      dsimp only [mq_step] at hs
      split at hs
      · obtain ⟨o, h', rfl, K⟩ := sd_pfA (l := l) (e := e) (below := below) (Q := Q) (n0 := n0) (z0 := z0) C hd hnx hq (by simpa using h1) (mq_hw_in h2) hfin (Nat.eq_of_beq_eq_true h3) hs
        exact K
      · cases hs
    · cases hok
  case iaload =>
    obtain ⟨hd, rfl⟩ := hdn rfl
    dsimp only [mq_step] at hs
    split at hs
    · rename_i i v r
      cases hu : mq_isU v with
      | true =>
        rw [hu] at hs
        cases hs
        have hv : v = .retAddr 1 := by
          unfold mq_isU at hu
          split at hu
          · rw [Nat.eq_of_beq_eq_true hu]
          · cases hu
        subst hv
        obtain ⟨aV, o1, -⟩ := hOs
        intro hg K
        have hin : 0 ≤ i.toInt ∧ i.toInt < (3 : Int) := of_decide_eq_true hg
        exact mq_good.sk (fun H ls locs ce sl _ _ _ r4 kk => va_ti hx hb o1.2.1 r4 (jk_in hin.1 hin.2) rfl hd kk) K
      | false =>
        rw [hu] at hs
        dsimp only [cond_false] at hs
        split at hs
        · rename_i gg q har
          obtain ⟨h1, h2⟩ := mq_bif_t hs
          cases h2
          intro hg K
          refine mq_good.of (fun w => ?_)
          obtain ⟨n, q1, q2, q3⟩ := mq_ar_spec (g := g) w har hg
          rw [Bool.or_eq_true] at h1
          rcases h1 with h1 | h1
          · rw [Nat.eq_of_beq_eq_true h1] at q1
            exact sd_iald C hd q1 q3 q2 K
          · rw [Nat.eq_of_beq_eq_true h1] at q1
            intro a1 a2 H ls locs r1 r2 r3 r4
            have hq4 : q < 4 := by
              rcases Nat.lt_or_ge q 4 with z | z
              · exact z
              · rcases Nat.lt_or_ge q (mq_N h) with z2 | z2
                · have := r1.2.2.2.1 q z z2
                  unfold mq_cell at this
                  rw [q1] at this
                  exact absurd this.1 (by decide)
                · have := r1.2.2.2.2.1 q z2
                  rw [q1] at this
                  cases this
            exact sd_iaX C hd hq4 q1 q3 q2 K a1 a2 H ls locs r1 r2 r3 r4
        · cases hs
    · cases hs
  case baload =>
    obtain ⟨hd, rfl⟩ := hdn rfl
    dsimp only [mq_step] at hs
    split at hs
    · split at hs
      · rename_i i v r gg q har
        obtain ⟨h1, h2⟩ := mq_bif_t hs
        cases h2
        intro hg K
        refine mq_good.of (fun w => ?_)
        obtain ⟨n, q1, q2, q3⟩ := mq_ar_spec (g := g) w har hg
        rw [Bool.or_eq_true] at h1
        exact sd_bald C hd (h1.imp Nat.eq_of_beq_eq_true Nat.eq_of_beq_eq_true) q1 q3 q2 K
      · cases hs
    · cases hs
  case laload =>
    obtain ⟨hd, rfl⟩ := hdn rfl
    dsimp only [mq_step] at hs
    split at hs
    · split at hs
      · rename_i i v r gg q har
        cases hs
        intro hg K
        refine mq_good.of (fun w => ?_)
        obtain ⟨n, q1, q2, q3⟩ := mq_ar_spec (g := g) w har hg
        exact sd_lald C hd q1 q3 q2 K
      · cases hs
    · cases hs
  case aaload =>
    obtain ⟨hd, rfl⟩ := hdn rfl
    dsimp only [mq_step] at hs
    split at hs
    · split at hs
      · rename_i i v r gg q har
        cases hs
        intro hg K
        refine mq_good.of (fun w => ?_)
        obtain ⟨n, q1, q2, q3⟩ := mq_ar_spec (g := g) w har hg
        exact sd_aald C hd (of_decide_eq_true hok) q1 q3 q2 K
      · cases hs
    · cases hs
  case iastore =>
    obtain ⟨hd, rfl⟩ := hdn rfl
    dsimp only [mq_step] at hs
    split at hs
    · split at hs
      · rename_i x i v r gg q har
        cases hs
        intro hg K
        refine mq_good.of (fun w => ?_)
        obtain ⟨n, q1, q2, q3⟩ := mq_ar_spec (g := g) w har hg
        exact sd_iast C hd q1 q3 q2 K
      · cases hs
    · cases hs
  case bastore =>
    obtain ⟨hd, rfl⟩ := hdn rfl
    dsimp only [mq_step] at hs
    split at hs
    · split at hs
      · rename_i x i v r xo gg q har
        cases h1 : Nat.beq (mq_ty T v 1) 1 with
        | true =>
          rw [h1] at hs
          cases hs
          intro hg K
          refine mq_good.of (fun w => ?_)
          obtain ⟨n, q1, q2, q3⟩ := mq_ar_spec (g := g) w har hg
          rw [Nat.eq_of_beq_eq_true h1] at q1
          exact sd_bast1 C hd q1 q3 q2 K
        | false =>
          rw [h1] at hs
          obtain ⟨h2, h3⟩ := mq_bif_t hs
          cases h3
          intro hg K
          simp only [mq_gB, Bool.and_eq_true] at hg
          refine mq_good.of (fun w => ?_)
          obtain ⟨n, q1, q2, q3⟩ := mq_ar_spec (g := g) w har hg.1
          rw [Nat.eq_of_beq_eq_true h2] at q1
          exact sd_bast2 C hd q1 q3 q2 (mq_bit_spec hg.2) K
      · cases hs
    · cases hs
  case lastore =>
    obtain ⟨hd, rfl⟩ := hdn rfl
    dsimp only [mq_step] at hs
    split at hs
    · split at hs
      · rename_i x i v r gg q har
        cases hs
        intro hg K
        refine mq_good.of (fun w => ?_)
        obtain ⟨n, q1, q2, q3⟩ := mq_ar_spec (g := g) w har hg
        exact sd_last C hd q1 q3 q2 K
      · cases hs
    · cases hs
  case aastore =>
    obtain ⟨hd, rfl⟩ := hdn rfl
    dsimp only [mq_step] at hs
    split at hs
    · split at hs
      · split at hs
        · rename_i x i v r xo gg q har xo2 g2 b' hob
          cases hs
          intro hg K
          obtain ⟨hg1, hg2⟩ := mq_gB_an hg
          refine mq_good.of (fun w => ?_)
          obtain ⟨n, q1, q2, q3⟩ := mq_ar_spec (g := g) w har hg2
          obtain ⟨q4, q5, -⟩ := mq_ob_spec (g := g) w hob hg1
          exact sd_aast C hd (of_decide_eq_true hok) q1 q3 q2 q4 q5 (mq_noT w q1) K
        · cases hs
      · cases hs
    · cases hs
  case arraylength =>
    obtain ⟨hd, rfl⟩ := hdn rfl
    dsimp only [mq_step] at hs
    split at hs
    · split at hs
      · rename_i v r q sh hrf
        cases hs
        intro hg K
        refine mq_good.of (fun w => ?_)
        obtain ⟨q1, q2⟩ := mq_rf_spec (g := g) w hrf
        obtain ⟨t, n, rfl, h9⟩ := mq_isA_spec hg
        exact sd_alen C hd q1 h9 q2 K
      · cases hs
    · cases hs
  case newarray t =>
    obtain ⟨hd, rfl⟩ := hdn rfl
    dsimp only [mq_step] at hs
    split at hs
    · cases hs
      obtain ⟨h1, h2⟩ := hcap _ _ _ _ _ rfl
      exact fun hg K => sd_newa C hd (of_decide_eq_true hok) (of_decide_eq_true hg) h1 h2 K
    · cases hs
  case anewarray i =>
    obtain ⟨hd, rfl⟩ := hdn rfl
    dsimp only [mq_step] at hs
    split at hs
    · cases hs
      obtain ⟨h1, h2⟩ := hcap _ _ _ _ _ rfl
      refine fun hg K => sd_newq C hd ?_ (of_decide_eq_true hg) h1 h2 K
      dsimp only [mq_okX] at hok
      rw [Bool.or_eq_true, Bool.and_eq_true, Bool.and_eq_true] at hok
      exact hok.imp (fun z => ⟨Nat.eq_of_beq_eq_true z.1, mq_hw_in z.2⟩) (fun z => ⟨Nat.eq_of_beq_eq_true z.1, mq_hw_in z.2⟩)
    · cases hs
  case new i =>
    obtain ⟨hd, rfl⟩ := hdn rfl
    cases hs
    obtain ⟨h1, h2⟩ := hcap _ _ _ _ _ rfl
    dsimp only [mq_okX] at hok
    split at hok
    · rename_i q hq
      rw [Bool.and_eq_true] at hok
      have hb' := Nat.eq_of_beq_eq_true hok.2
      subst hb'
      exact fun hg K => sd_newc C hd hq (mq_hw_in hok.1) h1 h2 K
    · cases hok
  case invokestatic i =>
    obtain ⟨hd, rfl⟩ := hdn rfl
    dsimp only [mq_step] at hs
    cases h1 : Nat.beq a 1000 with
    | false =>
      rw [h1] at hs
      dsimp only [cond_false] at hs
      dsimp only [mq_okX] at hok
      rw [h1] at hok
      dsimp only [cond_false] at hok
      cases h1002 : Nat.beq a 1002 with
      | true =>
        rw [h1002] at hs hok
        dsimp only [cond_true] at hs hok
        rw [Bool.and_eq_true, Bool.and_eq_true] at hok
        unfold mq_mx at hs
        split at hs
        · rename_i z x r
          obtain ⟨h8, h3⟩ := mq_bif_t hs
          cases h3
          obtain ⟨k1, k2⟩ := hcap _ _ _ _ _ rfl
          have hsum := mq_cat_sum g r
          have h8 := Nat.le_of_ble_eq_true h8
          have f1 := Nat.le_of_ble_eq_true hok.2.1
          have f2 := Nat.le_of_ble_eq_true hok.2.2
          exact fun _ K a1 b1 H ls locs r1 r2 r3 r4 => va_mmax hx hb (by rw [hml]; exact r3.1.symm) hown (hts _ (mq_hw_in hok.1)) (hts _ mq_mxS) (hts _ mq_mtI) (hts _ mq_mxC) (by omega) (by omega) k1 k2 hd (K a1 b1 H ls locs r1 r2 r3 r4)
        · cases hs
      | false =>
        rw [h1002] at hs hok
        dsimp only [cond_false] at hs hok
        cases h1003 : Nat.beq a 1003 with
        | true =>
          rw [h1003] at hs hok
          dsimp only [cond_true] at hs hok
          rw [Bool.and_eq_true, Bool.and_eq_true] at hok
          unfold mq_mi at hs
          split at hs
          · rename_i z x r
            obtain ⟨h8, h3⟩ := mq_bif_t hs
            cases h3
            obtain ⟨k1, k2⟩ := hcap _ _ _ _ _ rfl
            have hsum := mq_cat_sum g r
            have h8 := Nat.le_of_ble_eq_true h8
            have f1 := Nat.le_of_ble_eq_true hok.2.1
            have f2 := Nat.le_of_ble_eq_true hok.2.2
            exact fun _ K a1 b1 H ls locs r1 r2 r3 r4 => va_mmin hx hb (by rw [hml]; exact r3.1.symm) hown (hts _ (mq_hw_in hok.1)) (hts _ mq_miS) (hts _ mq_mtI) (hts _ mq_miC) (by omega) (by omega) k1 k2 hd (K a1 b1 H ls locs r1 r2 r3 r4)
          · cases hs
        | false =>
          rw [h1003] at hs
          dsimp only [cond_false] at hs
          unfold mq_ivS at hs
          split at hs
          · obtain ⟨-, h3⟩ := mq_bif_t hs
            cases h3
            exact trivial
          · cases hs
    | true =>
      rw [h1] at hs
      dsimp only [cond_true] at hs
      dsimp only [mq_okX] at hok
      rw [h1] at hok
      dsimp only [cond_true] at hok
      rw [Bool.and_eq_true, Bool.and_eq_true, Bool.and_eq_true] at hok
      obtain ⟨k1, k2, k3, k4⟩ := hok
      have k2 := of_decide_eq_true k2
      unfold mq_copy at hs
      split at hs
      · rename_i n dp dst sp src r
        split at hs
        · cases hs
        · rename_i a0 s0 hr0
          split at hs
          · cases hs
          · rename_i a1 s1 hr1
            cases h8 : Nat.ble (mq_cat r) 8 with
            | false => rw [h8] at hs; cases hs
            | true =>
              rw [h8] at hs
              dsimp only [cond_true] at hs
              cases h4 : Nat.ble 4 b with
              | true =>
                rw [h4] at hs
                cases hs
                intro hg K
                simp only [mq_gB, Bool.and_eq_true] at hg
                refine mq_good.of (fun w => ?_)
                obtain ⟨q1, q2⟩ := mq_rf_spec (g := g) w hr0
                obtain ⟨q3, q4⟩ := mq_rf_spec (g := g) w hr1
                obtain ⟨m0, m1, e1, e2, e3, e4, e5, e6, e7⟩ := mq_gC_spec hg.1
                rw [e1] at q1
                rw [e2] at q3
                have hb4 := Nat.le_of_ble_eq_true h4
                exact sd_cpR C hd (mq_hw_in k1) (Nat.le_of_ble_eq_true k3) (Nat.le_of_ble_eq_true k4) (by omega) q1 q3 q2 q4 e3 e4 e5 e6 e7 (Nat.le_of_ble_eq_true h8) hg.2.2 (mq_noT w q3) K
              | false =>
                rw [h4] at hs
                cases hs
                intro hg K
                simp only [mq_gB, Bool.and_eq_true] at hg
                refine mq_good.of (fun w => ?_)
                obtain ⟨q1, q2⟩ := mq_rf_spec (g := g) w hr0
                obtain ⟨q3, q4⟩ := mq_rf_spec (g := g) w hr1
                obtain ⟨m0, m1, e1, e2, e3, e4, e5, e6, e7⟩ := mq_gC_spec hg.1
                rw [e1] at q1
                rw [e2] at q3
                have hb4 : ¬ 4 ≤ b := fun z => by rw [Nat.ble_eq_true_of_le z] at h4; cases h4
                exact sd_cpI C hd (mq_hw_in k1) (Nat.le_of_ble_eq_true k3) (Nat.le_of_ble_eq_true k4) (by omega) q1 q3 q2 q4 e3 e4 e5 e6 e7 (Nat.le_of_ble_eq_true h8) K
      · cases hs
  case invokespecial i =>
    obtain ⟨hd, rfl⟩ := hdn rfl
    dsimp only [mq_step] at hs
    cases h1 : Nat.beq a 1001 with
    | false =>
      rw [h1] at hs
      dsimp only [cond_false] at hs
      unfold mq_ivI at hs
      split at hs
      · obtain ⟨-, h3⟩ := mq_bif_t hs
        cases h3
        exact trivial
      · obtain ⟨-, h3⟩ := mq_bif_t hs
        cases h3
        exact trivial
      · cases hs
    | true =>
      rw [h1] at hs
      dsimp only [cond_true] at hs
      dsimp only [mq_okX] at hok
      rw [h1] at hok
      dsimp only [cond_true] at hok
      rw [Bool.and_eq_true, Bool.and_eq_true] at hok
      split at hs
      · obtain ⟨h2, h3⟩ := mq_bif_t hs
        cases h3
        exact fun _ K => sd_obj C hd (mq_hw_in hok.1) (Nat.le_of_ble_eq_true hok.2.1) (Nat.le_of_ble_eq_true hok.2.2) (Nat.le_of_ble_eq_true h2) K
      · cases hs
  case invokevirtual i =>
    obtain ⟨hd, rfl⟩ := hdn rfl
    dsimp only [mq_step] at hs
    dsimp only [mq_okX] at hok
    cases hz : Nat.ble 1004 a with
    | false =>
      rw [hz] at hs
      dsimp only [cond_false] at hs
      unfold mq_ivV at hs
      split at hs
      · split at hs
        · obtain ⟨-, h3⟩ := mq_bif_t hs
          cases h3
          exact trivial
        · cases hs
      · cases hs
    | true =>
      rw [hz] at hs hok
      dsimp only [cond_true] at hs hok
      cases h4 : Nat.beq a 1004 with
      | true =>
        rw [h4] at hs hok
        dsimp only [cond_true] at hs hok
        rw [Bool.and_eq_true, Bool.and_eq_true] at hok
        obtain ⟨e1, e2⟩ := of_decide_eq_true hok.1
        subst e2
        unfold mq_chr at hs
        split at hs
        · rename_i x q r
          obtain ⟨h8, h3⟩ := mq_bif_t hs
          cases h3
          rw [Bool.and_eq_true] at h8
          have hq := Nat.eq_of_beq_eq_true h8.1
          subst hq
          have f1 := Nat.le_of_ble_eq_true hok.2.1
          have f2 := Nat.le_of_ble_eq_true hok.2.2
          obtain ⟨k1, k2⟩ := hcap _ _ _ _ _ rfl
          obtain ⟨aV, o1, -⟩ := hOs
          intro hg K a1 b1 H ls locs r1 r2 r3 r4
          have hin : 0 ≤ x.toInt ∧ x.toInt < (jk_wn : Int) := of_decide_eq_true hg
          have oH := o1.kept r4.2.1
          obtain ⟨cellB, g1, g2, g3, -⟩ := id oH.2.2.1
          exact jk_go (v := some (.int (jk_w x.toNatClampNeg))) (va_runV (C := "java/lang/String") (b := g.2.1 2) (As := [.int x]) (own := "RanOut$Reader") ⟨hx, hb, hml, by rw [← e1]; exact hown, hts⟩ (jk_CA hin.1 hin.2) ⟨callB_of 1 hts (jk_GI jk_cCA) rfl rfl rfl (hts _ jk_nST) (hts _ jk_mCA) (by decide +kernel) ⟨by show 3 + 1 ≤ _; omega, by show 8 + (2 + 11) + 64 ≤ _; omega⟩, hts _ jk_iCA, hts _ jk_lCA⟩ ⟨jk_blind _ _ _ _ _, ⟨cellB, g1, g2, g3⟩, fun U hU hW => ⟨rfl, (by rw [hU]; exact oH.moved hW.alike)⟩⟩ rfl rfl r3.1 rfl (lv_room (by rw [mq_cat_sum]; exact Nat.le_of_ble_eq_true h8.2)) hd ⟨k1, k2⟩) (K a1 b1 H ls locs r1 r2 r3 r4)
        · cases hs
      | false =>
        rw [h4] at hs hok
        dsimp only [cond_false] at hs hok
        rw [Bool.and_eq_true, Bool.and_eq_true] at hok
        unfold mq_cln at hs
        split at hs
        · split at hs
          · rename_i a0 r xo n' hT
            obtain ⟨h8, h3⟩ := mq_bif_t hs
            cases h3
            obtain ⟨k1, k2⟩ := hcap _ _ _ _ _ rfl
            have f1 := Nat.le_of_ble_eq_true hok.2.1
            have f2 := Nat.le_of_ble_eq_true hok.2.2
            exact fun _ K => sd_clone C hOs hd (mq_hw_in hok.1) (fun H r1 => (r1.2.2.2.2.2.2.2.1 a0 _ hT).1) (Nat.le_of_ble_eq_true h8) (by omega) (by omega) k1 k2 K
          · cases hs
        · cases hs
  case ireturn =>
    dsimp only [mq_step] at hs
    split at hs
    · cases h1 : Nat.beq c' 1 with
      | true => rw [h1] at hs; cases hs; exact trivial
      | false => rw [h1] at hs; cases hs; exact trivial
    · cases hs
  case lreturn =>
    dsimp only [mq_step] at hs
    split at hs <;> cases hs
    exact trivial
  case areturn =>
    dsimp only [mq_step] at hs
    split at hs <;> cases hs <;> exact trivial
  case return_ =>
    dsimp only [mq_step] at hs
    split at hs <;> cases hs
    exact trivial
  all_goals (dsimp only [mq_step] at hs; cases hs)
end MQ6
end
section
/-! CALLS, RETURNS, RUNS -/
def mq_st (g : mq_GH) (T : mq_T) (h : mq_H) (U : State) : Prop := mq_rel g T h U.heap ∧ mq_ext g h U U.heap ∧ va_K g.2.2.1 mq_cl (mq_tys g) U ∧ (∀ w ∈ mq_nw, va_Nw w U) ∧ va_AO "RanOut$Law" U ∧ va_AO "RanOut$Line" U ∧ mq_os g U
def mq_Pc (g : mq_GH) (T : mq_T) (as : List Value) (h : mq_H) : Array Value → State → Prop := fun a U => a = (as.map (mq_cv g)).toArray ∧ mq_st g T h U
def mq_Qc (g : mq_GH) (T : mq_T) (v : Option Value) (h : mq_H) : Array Value → State → Outcome → State → Prop := fun _ st o t => o = .returned (v.map (mq_cv g)) ∧ mq_st g T h t ∧ ∀ q : Nat, q < g.1 → t.heap[q]? = st.heap[q]?
theorem mq_nw_form {w : Cond} (h : w ∈ mq_nw) : ∃ a i x b, w = .methodLinkNest a i x b := by
  have := (List.mem_filter.mp h).2
  cases w <;> first | exact ⟨_, _, _, _, rfl⟩ | (simp [mq_nest] at this)
theorem mq_gw_good {w : Cond} (h : w ∈ mq_gw) : goodWord w = true := (List.mem_filter.mp h).2
theorem mq_GI {w : Cond} (hw : w ∈ mq_gw) : GoodIn mq_gw (w :: mq_gw) := by
  intro x hx
  rcases List.mem_cons.mp hx with rfl | hx
  · exact ⟨hw, good_of_word (mq_gw_good hw)⟩
  · exact ⟨hx, good_of_word (mq_gw_good hx)⟩
theorem mq_st_moved {g : mq_GH} {T : mq_T} {h : mq_H} {s t : State} {H : Heap} (hW : s.WarmedH t.vm) (ht : t.heap = H) (h1 : mq_rel g T h H) (h2 : mq_ext g h s H) (hK : va_K g.2.2.1 mq_cl (mq_tys g) s) (hN : ∀ w ∈ mq_nw, va_Nw w s) (hA1 : va_AO "RanOut$Law" s) (hA2 : va_AO "RanOut$Line" s ∧ mq_os g s) (hq : ∀ q : Nat, q < s.heap.size → ¬ g.1 ≤ q → H[q]? = s.heap[q]?) : mq_st g T h t := by
  refine ⟨by rw [ht]; exact h1, fun k n hk hn => by rw [ht]; exact (h2 k n hk hn).moved hW.alike, va_K.moved hW.alike hK, fun w hw => ?_, hA1.moved hW.alike, hA2.1.moved hW.alike, hA2.2.to hW ht hq⟩
  have := hN w hw
  obtain ⟨a, i, x, b, rfl⟩ := mq_nw_form hw
  exact this.warmM hW
theorem mq_blind (g : mq_GH) (T : mq_T) (as : List Value) (h : mq_H) : FrameBlind (mq_Pc g T as h) := by
  intro a U gg mk ⟨q1, q2, q3, q4, q5, q6, q7⟩
  refine ⟨q1, q2, fun k n hk hn => (q3 k n hk hn).moved (Vm.Alike.refl U.vm), va_K.moved (u := U) (U := U.calling gg mk a) (Vm.Alike.refl U.vm) q4, fun w hw => ?_, q6.moved (Vm.Alike.refl U.vm), q7.1.moved (Vm.Alike.refl U.vm), q7.2.calling gg mk a⟩
  have := q5 w hw
  obtain ⟨a', i, x, b, rfl⟩ := mq_nw_form hw
  exact this.same rfl rfl
theorem mq_pop_spec : ∀ (n : Nat) (st acc as r : List Value), mq_pop n st acc = some (as, r) → ∃ bs, as = bs ++ acc ∧ bs.length = n ∧ st = bs.reverse ++ r
  | 0, st, acc, as, r, h => by cases h; exact ⟨[], rfl, rfl, rfl⟩
  | n + 1, [], acc, as, r, h => by cases h
  | n + 1, v :: st, acc, as, r, h => by
    obtain ⟨bs, h1, h2, h3⟩ := mq_pop_spec n st (v :: acc) as r h
    exact ⟨bs ++ [v], by rw [h1]; simp, by simp [h2], by rw [h3]; simp⟩
section MQ7
variable {g : mq_GH} {T : mq_T} {p : Program} {l : Launch} {e : Env} {R : Room} {s : State} {mid : MethodId} {args : Array Value} {below : List Frame} {meth : Method} {c : Code} {Q : State → Prop} {n0 z0 nL : Nat}
variable {y : MethodName} {bs : ByteArray} {ret : Option FieldType} {fr lo : Nat} {pc pc' : Nat} {L : mq_L} {st st' r : List Value} {h h' : mq_H}
theorem sd_ret {P : mq_P} {nM nx a b c' j : Nat} {ins : Instr} {k : Int32} {o : Option Bool} {v : Option Value} (C : mq_ctx g p R s mid args meth c y bs nL ret fr lo) (hdn : mq_isSw ins = false → decode bs pc = .ok (ins, mq_ln ins) ∧ nx = pc + mq_ln ins) (hok : mq_okX P nM y nL ret fr lo ins pc a b c' k j = true) (hs : mq_step T ins pc nx a b c' k L st h = some (.inr (.inr (.inr (.inr (.inr (o, v))))))) (hg : mq_gB o = true) : mq_good g T p l e R s mid args below meth c (MQ below (mq_Qc g T v h) args s (mq_N h - n0) (mq_Z h - z0) (fun q : Nat => g.1 ≤ q)) n0 z0 nL pc L st h := by
  obtain ⟨hx, hb, hml, hr, hown, hnm, hlk, hfr, hlo, hts, hK, hNw, hA1, hA2, hgs⟩ := C
  intro a1 b1 H ls locs r1 r2 r3 r4
  have hq : ∀ t : State, t.heap = H → s.WarmedH t.vm → mq_Qc g T v h args s (.returned (v.map (mq_cv g))) t := fun t ht hW => ⟨rfl, mq_st_moved hW ht r1 r2 hK hNw hA1 hA2 r4.2.1, fun q hq => by rw [ht]; exact r4.2.1 q (by omega) (by omega)⟩
  cases ins
  case ireturn =>
    obtain ⟨hd, rfl⟩ := hdn rfl
    dsimp only [mq_step] at hs
    split at hs
    · rename_i x
      cases h1 : Nat.beq c' 1 with
      | true =>
        rw [h1] at hs
        cases hs
        have hret : ret = some .boolean := by
          rcases of_decide_eq_true hok with z | z
          · exact z.2
          · exact absurd (Nat.eq_of_beq_eq_true h1) z.1
        exact W.zret hx hb (by rw [hr, hret]) (by rcases mq_bit_spec hg with rfl | rfl <;> decide) hq (fun q hq => r4.2.2 q hq) hd (hlocks := hlk)
      | false =>
        rw [h1] at hs
        cases hs
        have hret : ret = some .int := by
          rcases of_decide_eq_true hok with z | z
          · rw [z.1] at h1; cases h1
          · exact z.2
        exact W.iret hx hb (by rw [hr, hret]) hq (fun q hq => r4.2.2 q hq) hd (hlocks := hlk)
    · cases hs
  case lreturn =>
    obtain ⟨hd, rfl⟩ := hdn rfl
    dsimp only [mq_step] at hs
    split at hs
    · cases hs
      exact W.lret hx hb (by rw [hr]; exact of_decide_eq_true hok) hq (fun q hq => r4.2.2 q hq) hd (hlocks := hlk)
    · cases hs
  case areturn =>
    obtain ⟨hd, rfl⟩ := hdn rfl
    have hrt : ∃ rt, ret = some rt ∧ ((∃ n, rt = .object n) ∨ ∃ t, rt = .array t) := by
      dsimp only [mq_okX] at hok
      split at hok
      · exact ⟨_, rfl, Or.inl ⟨_, rfl⟩⟩
      · exact ⟨_, rfl, Or.inr ⟨_, rfl⟩⟩
      · cases hok
    obtain ⟨rt, h1, h2⟩ := hrt
    dsimp only [mq_step] at hs
    split at hs
    · cases hs
      exact W.aret hx hb (by rw [hr, h1]) h2 (Or.inr ⟨_, rfl⟩) hq (fun q hq => r4.2.2 q hq) hd (hlocks := hlk)
    · cases hs
      exact W.aret hx hb (by rw [hr, h1]) h2 (Or.inr ⟨_, rfl⟩) hq (fun q hq => r4.2.2 q hq) hd (hlocks := hlk)
    · cases hs
      exact W.aret hx hb (by rw [hr, h1]) h2 (Or.inl rfl) hq (fun q hq => r4.2.2 q hq) hd (hlocks := hlk)
    · cases hs
  case return_ =>
    obtain ⟨hd, rfl⟩ := hdn rfl
    dsimp only [mq_step] at hs
    split at hs
    · cases hs
      exact W.vret hx hb (by rw [hr]; exact of_decide_eq_true hok) hq (fun q hq => r4.2.2 q hq) hd (hlocks := hlk)
    · cases hs
  all_goals
    exfalso
    have hsem := hs
    dsimp only [mq_step] at hs
    first
      | (cases hs; done)
      | (unfold mq_ldI at hs; split at hs <;> cases hs)
      | (unfold mq_ldJ at hs; split at hs <;> cases hs)
      | (unfold mq_ldA at hs; split at hs <;> cases hs)
      | (unfold mq_stI at hs; split at hs <;> cases hs)
      | (unfold mq_stJ at hs; split at hs <;> cases hs)
      | (unfold mq_stA at hs; split at hs <;> cases hs)
      | (unfold mq_c0 at hs; split at hs <;> cases hs)
      | (unfold mq_cr at hs; split at hs <;> cases hs)
      | ((try simp only [Bool.cond_eq_ite, mq_ivS, mq_ivI, mq_ivV, mq_gf, mq_pf, mq_copy, mq_mx, mq_mi, mq_chr, mq_cln] at hs); repeat' split at hs
         all_goals (cases hs; done))
/-- behind a call -/
theorem mq_cont {H : Heap} {locs : List Loc} {ce sl mc ms : Nat} {ls : Array Slot} {st0 rest : List Value} {v1 : Option Value} {h1 : mq_H} {a : Array Value} (hr : va_Run p l e R s mid args below meth c H locs ce sl mc ms (F0 mid pc ls st0) rest (mq_Qc g T v1 h1 a) (fun q : Nat => g.1 ≤ q)) (kk : ∀ (t : State) (H1 : Heap) (locs1 : List Loc), t.heap = H1 → s.vm.Alike t.vm → mq_st g T h1 t → (∀ q : Nat, q < g.1 → H1[q]? = H[q]?) → (∀ x ∈ locs1, x ∈ locs ∨ g.1 ≤ x.base) → W p l e R s mid args below meth c H1 locs1 (ce + mc) (sl + ms) Q (F0 mid (pc + 3) ls ((v1.map (mq_cv g)).toList ++ rest))) : W p l e R s mid args below meth c H locs ce sl Q (F0 mid pc ls st0) := by
  intro T0 hT X
  obtain ⟨v, st₀, t, T', L, e0, X', hL, e1, e2, ⟨hv, hst, hfr⟩, st⟩ := hr T0 hT X
  cases hv
  obtain ⟨t2, a1, b1⟩ := kk t T'.heap (locs ++ L) e1.symm (by rw [← e2]; exact X'.warmed.alike) hst (fun q hq => by rw [e1, hfr q hq, e0]) (fun x hx => by
    rcases List.mem_append.mp hx with z | z
    · exact Or.inl z
    · exact Or.inr (hL x z)) T' rfl X'
  exact ⟨t2, st t2 a1, b1⟩
theorem mq_contG {H : Heap} {locs : List Loc} {ls : Array Slot} {st0 : List Value} {v1 : Option Value} {h1 : mq_H} {a : Array Value} (C : mq_ctx g p R s mid args meth c y bs nL ret fr lo) (hle : mq_le h h1) (a1 : n0 ≤ mq_N h) (b1 : z0 ≤ mq_Z h) (r1 : mq_rel g T h H) (r3 : mq_lv g nL ls L) (r4 : va_S (fun q : Nat => g.1 ≤ q) s.heap H locs) (hr : va_Run p l e R s mid args below meth c H locs (mq_N h - n0) (mq_Z h - z0) (mq_N h1 - mq_N h) (mq_Z h1 - mq_Z h) (F0 mid pc ls st0) (st'.map (mq_cv g)) (mq_Qc g T v1 h1 a) (fun q : Nat => g.1 ≤ q)) (K : mq_good g T p l e R s mid args below meth c Q n0 z0 nL (pc + 3) L (mq_tl v1 st') h1) : W p l e R s mid args below meth c H locs (mq_N h - n0) (mq_Z h - z0) Q (F0 mid pc ls st0) := by
  obtain ⟨hx, hb, hml, hr', hown, hnm, hlk, hfr, hlo, hts, hK, hNw, hA1, hA2, hgs⟩ := C
  refine mq_cont hr (fun t H1 locs1 ht hal hst hq hl => ?_)
  obtain ⟨q1, q2, -⟩ := hst
  rw [ht] at q1 q2
  have e1 : mq_N h - n0 + (mq_N h1 - mq_N h) = mq_N h1 - n0 := by have := hle.1; omega
  have e2 : mq_Z h - z0 + (mq_Z h1 - mq_Z h) = mq_Z h1 - z0 := by have := hle.2; omega
  rw [e1, e2]
  have hstk : (v1.map (mq_cv g)).toList ++ st'.map (mq_cv g) = (mq_tl v1 st').map (mq_cv g) := by cases v1 <;> rfl
  rw [hstk]
  refine K (Nat.le_trans a1 hle.1) (Nat.le_trans b1 hle.2) H1 ls locs1 q1 (fun k n hk hn => (q2 k n hk hn).moved hal.symm) r3 ⟨?_, fun q g1 g2 => ?_, fun x hx => ?_⟩
  · have h0 := r4.1
    have := r1.2.1
    have := q1.2.1
    have := hle.1
    have := r1.1
    omega
  · rw [hq q (by omega)]
    exact r4.2.1 q g1 g2
  · rcases hl x hx with z | z
    · exact r4.2.2 x z
    · exact z
/-- a call, by the callee's contract -/
theorem sd_call {P : mq_P} {nM nx a b c' j m' : Nat} {ins : Instr} {k : Int32} {o : Option Bool} {as : List Value} {v1 : Option Value} {h1 : mq_H} {y2 : MethodName} {bs2 : ByteArray} {nL2 : Nat} {ret2 : Option FieldType} {fr2 lo2 kd2 ci2 np2 j1 j2 j3 j4 : Nat} (C : mq_ctx g p R s mid args meth c y bs nL ret fr lo) (hdn : mq_isSw ins = false → decode bs pc = .ok (ins, mq_ln ins) ∧ nx = pc + mq_ln ins) (hok : mq_okX P nM y nL ret fr lo ins pc a b c' k j = true) (hs : mq_step T ins pc nx a b c' k L st h = some (.inr (.inr (.inr (.inr (.inl (o, m', as, st', pc'))))))) (hg : mq_gB o = true) (hMs : m' < nM → P.1 m' = some (y2, bs2, nL2, ret2, fr2, lo2, kd2, ci2, np2, j1, j2, j3, j4) → mq_okM (y2, bs2, nL2, ret2, fr2, lo2, kd2, ci2, np2, j1, j2, j3, j4) = true) (hm : P.1 m' = some (y2, bs2, nL2, ret2, fr2, lo2, kd2, ci2, np2, j1, j2, j3, j4)) (hCs : m' < nM → Cond.code y2 bs2 nL2 ret2 ∈ mq_gw)
    (hM : m' < nM → Met l y2 (Cond.code y2 bs2 nL2 ret2 :: mq_gw) ({ frames := fr2, cells := mq_N h1 - mq_N h, slots := mq_Z h1 - mq_Z h, locals := lo2 }) (mq_Pc g T as h) (mq_Qc g T v1 h1) (mq_N h1 - mq_N h) (mq_Z h1 - mq_Z h) (fun q : Nat => g.1 ≤ q)) (hle : mq_le h h1) (hc1 : mq_N h1 - n0 ≤ R.cells) (hc2 : mq_Z h1 - z0 ≤ R.slots) (K : mq_good g T p l e R s mid args below meth c Q n0 z0 nL pc' L (mq_tl v1 st') h1) : mq_good g T p l e R s mid args below meth c Q n0 z0 nL pc L st h := by
  obtain ⟨hx, hb, hml, hr, hown, hnm, hlk, hfr, hlo, hts, hK, hNw, hA1, hA2, hgs⟩ := id C
  have hcat : ∀ r : List Value, Nat.ble (mq_cat r) 8 = true → ∀ (pc : Nat) (ls : Array Slot) (st0 : List Value), 2 * (F0 mid pc ls st0).monitorRoom + ((r.map (mq_cv g)).map fun v => v.category).sum ≤ 8 := fun r hr pc ls st0 => lv_room (by rw [mq_cat_sum]; exact Nat.le_of_ble_eq_true hr)
  have hPcU : ∀ (H : Heap), (∀ q : Nat, q < s.heap.size → ¬ g.1 ≤ q → H[q]? = s.heap[q]?) → mq_rel g T h H → mq_ext g h s H → ∀ U : State, U.heap = H → s.WarmedH U.vm → mq_Pc g T as h (as.map (mq_cv g)).toArray U := fun H r0 r1 r2 U hU hW => ⟨rfl, mq_st_moved hW hU r1 r2 hK hNw hA1 hA2 r0⟩
  cases ins
  case invokestatic i =>
    obtain ⟨hd, rfl⟩ := hdn rfl
    dsimp only [mq_step] at hs
    cases h1000 : Nat.beq a 1000 with
    | true =>
      exfalso
      rw [h1000] at hs
      dsimp only [cond_true] at hs
      simp only [mq_copy, Bool.cond_eq_ite] at hs
      repeat' split at hs
      all_goals (cases hs; done)
    | false =>
      rw [h1000] at hs
      dsimp only [cond_false] at hs
      have h1002 : Nat.beq a 1002 = false := by
        cases hz : Nat.beq a 1002 with
        | false => rfl
        | true =>
          exfalso
          rw [hz] at hs
          dsimp only [cond_true] at hs
          simp only [mq_mx, Bool.cond_eq_ite] at hs
          repeat' split at hs
          all_goals (cases hs; done)
      rw [h1002] at hs
      dsimp only [cond_false] at hs
      have h1003 : Nat.beq a 1003 = false := by
        cases hz : Nat.beq a 1003 with
        | false => rfl
        | true =>
          exfalso
          rw [hz] at hs
          dsimp only [cond_true] at hs
          simp only [mq_mi, Bool.cond_eq_ite] at hs
          repeat' split at hs
          all_goals (cases hs; done)
      rw [h1003] at hs
      dsimp only [cond_false] at hs
      unfold mq_ivS at hs
      split at hs
      · rename_i as' r' hpop
        obtain ⟨h8, h3⟩ := mq_bif_t hs
        cases h3
        dsimp only [mq_okX] at hok
        rw [h1000, h1002, h1003] at hok
        dsimp only [cond_false] at hok
        unfold mq_okC at hok
        rw [hm, Bool.and_eq_true] at hok
        dsimp only at hok
        simp only [Bool.and_eq_true] at hok
        obtain ⟨w1, w2, w3, w4, w5, w6, w7⟩ := hok
        have hlt : a < nM := by simpa using w1
        have hMO := hMs hlt hm
        unfold mq_okM at hMO
        dsimp only at hMO
        rw [Nat.eq_of_beq_eq_true w2] at hMO
        simp only [Bool.and_eq_true, decide_eq_true_eq] at hMO
        obtain ⟨u2, u3, u4, u5⟩ := hMO
        obtain ⟨bs', e1, e2, e3⟩ := mq_pop_spec _ _ _ _ _ hpop
        simp only [List.append_nil] at e1
        subst e1
        have hR : fr2 + 1 ≤ R.frames ∧ 8 + (nL2 + 11) + lo2 ≤ R.locals := ⟨Nat.le_trans (Nat.le_of_ble_eq_true w4) hfr, Nat.le_trans (Nat.le_of_ble_eq_true w5) hlo⟩
        have hnp : as.length = np2 := by rw [e2]; exact (Nat.eq_of_beq_eq_true w3).symm
        intro a1 b1 H ls locs r1 r2 r3 r4
        refine mq_contG (a := (as.map (mq_cv g)).toArray) C hle a1 b1 r1 r3 r4 ?_ K
        rw [e3, List.map_append, List.map_reverse]
        rw [Bool.or_eq_true] at w7
        rcases w7 with w7 | w7
        · exact va_runS (As := as.map (mq_cv g)) ⟨hx, hb, hml, hown, hts⟩ (hM hlt) ⟨callB_of np2 hts (mq_GI (hCs hlt)) rfl rfl rfl (hts _ (mq_hw_in u2)) (hts _ (mq_hw_in w7)) u3 hR, hts _ (mq_hw_in u5)⟩ ⟨mq_blind g T as h, hPcU H r4.2.1 r1 r2⟩ rfl (by rw [List.length_map]; exact hnp) r3.1 rfl (hcat _ h8 _ _ _) hd ⟨by have := hle.1; omega, by have := hle.2; omega⟩
        · exact va_runSN (As := as.map (mq_cv g)) ⟨hx, hb, hml, hown, hts⟩ (hM hlt) ⟨va_cnB np2 hts (mq_GI (hCs hlt)) rfl rfl rfl (hNw _ (mq_hn_in w7)) (hts _ (mq_hw_in u2)) u3 hR, hts _ (mq_hw_in u5), trivial⟩ ⟨mq_blind g T as h, hPcU H r4.2.1 r1 r2⟩ rfl (by rw [List.length_map]; exact hnp) r3.1 rfl (hcat _ h8 _ _ _) hd ⟨by have := hle.1; omega, by have := hle.2; omega⟩
      · cases hs
  case invokespecial i =>
    obtain ⟨hd, rfl⟩ := hdn rfl
    dsimp only [mq_step] at hs
    cases h1001 : Nat.beq a 1001 with
    | true =>
      exfalso
      rw [h1001] at hs
      dsimp only [cond_true] at hs
      simp only [Bool.cond_eq_ite] at hs
      repeat' split at hs
      all_goals (cases hs; done)
    | false =>
      rw [h1001] at hs
      dsimp only [cond_false] at hs
      have main : ∃ (v : Value) (q : Nat) (as' : List Value), mq_pop b st [] = some (as', v :: st') ∧ as = v :: as' ∧ mq_cv g v = .ref (mq_ad g q) ∧ Nat.ble (mq_cat st') 8 = true ∧ m' = a ∧ pc' = pc + mq_ln (.invokespecial i) := by
        unfold mq_ivI at hs
        split at hs
        · rename_i as' q r' hpop
          obtain ⟨h8, h3⟩ := mq_bif_t hs
          cases h3
          exact ⟨_, q, _, hpop, rfl, rfl, h8, rfl, rfl⟩
        · rename_i as' q r' hpop
          obtain ⟨h8, h3⟩ := mq_bif_t hs
          cases h3
          exact ⟨_, q, _, hpop, rfl, rfl, h8, rfl, rfl⟩
        · cases hs
      obtain ⟨v, q, as', hpop, rfl, hcv, h8, rfl, rfl⟩ := main
      dsimp only [mq_okX] at hok
      rw [h1001] at hok
      dsimp only [cond_false] at hok
      unfold mq_okC at hok
      rw [hm, Bool.and_eq_true] at hok
      dsimp only at hok
      simp only [Bool.and_eq_true] at hok
      obtain ⟨w1, w2, w3, w4, w5, w6, w7⟩ := hok
      have hlt : m' < nM := by simpa using w1
      have hMO := hMs hlt hm
      unfold mq_okM at hMO
      dsimp only at hMO
      rw [Nat.eq_of_beq_eq_true w2] at hMO
      simp only [Bool.and_eq_true, decide_eq_true_eq] at hMO
      obtain ⟨u2, u3, u4, u5, u6, u7⟩ := hMO
      subst u7
      obtain ⟨bs', e1, e2, e3⟩ := mq_pop_spec _ _ _ _ _ hpop
      simp only [List.append_nil] at e1
      subst e1
      have hR : fr2 + 1 ≤ R.frames ∧ 8 + (nL2 + 11) + lo2 ≤ R.locals := ⟨Nat.le_trans (Nat.le_of_ble_eq_true w4) hfr, Nat.le_trans (Nat.le_of_ble_eq_true w5) hlo⟩
      have hnp : as'.length = np2 := by rw [e2]; exact (Nat.eq_of_beq_eq_true w3).symm
      intro a1 b1 H ls locs r1 r2 r3 r4
      refine mq_contG (a := (Value.ref (mq_ad g q) :: as'.map (mq_cv g)).toArray) C hle a1 b1 r1 r3 r4 ?_ K
      rw [e3, List.map_append, List.map_reverse, List.map_cons, hcv]
      have hp : PreS s H (mq_Pc g T (v :: as') h) (.ref (mq_ad g q) :: as'.map (mq_cv g)) := ⟨mq_blind g T _ h, fun U hU hW => by have := hPcU H r4.2.1 r1 r2 U hU hW; rw [List.map_cons, hcv] at this; exact this⟩
      rw [Bool.or_eq_true] at w7
      rcases w7 with w7 | w7
      · exact va_runI (As := as'.map (mq_cv g)) ⟨hx, hb, hml, hown, hts⟩ (hM hlt) ⟨callB_of np2 hts (mq_GI (hCs hlt)) rfl rfl rfl (hts _ (mq_hw_in u2)) (hts _ (mq_hw_in w7)) u3 hR, u6, hts _ (mq_hw_in u5)⟩ hp rfl (by rw [List.length_map]; exact hnp) r3.1 rfl (hcat _ h8 _ _ _) hd ⟨by have := hle.1; omega, by have := hle.2; omega⟩
      · exact va_runIN (As := as'.map (mq_cv g)) ⟨hx, hb, hml, hown, hts⟩ (hM hlt) ⟨va_cnB np2 hts (mq_GI (hCs hlt)) rfl rfl rfl (hNw _ (mq_hn_in w7)) (hts _ (mq_hw_in u2)) u3 hR, u6, hts _ (mq_hw_in u5)⟩ hp rfl (by rw [List.length_map]; exact hnp) r3.1 rfl (hcat _ h8 _ _ _) hd ⟨by have := hle.1; omega, by have := hle.2; omega⟩
  case invokevirtual i =>
    obtain ⟨hd, rfl⟩ := hdn rfl
    dsimp only [mq_step] at hs
    have h1004 : Nat.ble 1004 a = false := by
      cases hz : Nat.ble 1004 a with
      | false => rfl
      | true =>
        exfalso
        rw [hz] at hs
        dsimp only [cond_true] at hs
        simp only [mq_chr, mq_cln, Bool.cond_eq_ite] at hs
        repeat' split at hs
        all_goals (cases hs; done)
    rw [h1004] at hs
    dsimp only [cond_false] at hs
    unfold mq_ivV at hs
    split at hs
    · rename_i as' v r' hpop
      split at hs
      · rename_i o' q hob
        obtain ⟨h8, h3⟩ := mq_bif_t hs
        cases h3
        dsimp only [mq_okX] at hok
        rw [h1004] at hok
        dsimp only [cond_false] at hok
        unfold mq_okC at hok
        rw [hm, Bool.and_eq_true] at hok
        dsimp only at hok
        simp only [Bool.and_eq_true] at hok
        obtain ⟨w1, w2, w3, w4, w5, w6, w7⟩ := hok
        have hlt : a < nM := by simpa using w1
        have hMO := hMs hlt hm
        unfold mq_okM at hMO
        dsimp only at hMO
        rw [Nat.eq_of_beq_eq_true w2] at hMO
        simp only [Bool.and_eq_true, decide_eq_true_eq] at hMO
        obtain ⟨u2, u3, u4, u5, u6, u7⟩ := hMO
        have hci : ci2 = c' := by
          rw [Bool.or_eq_true] at w6
          rcases w6 with z | z
          · exact Nat.eq_of_beq_eq_true z
          · cases z
        subst hci
        split at u7
        · rename_i rr hrr
          have hcls : rr.1 = y2.cls := of_decide_eq_true u7
          obtain ⟨bs', e1, e2, e3⟩ := mq_pop_spec _ _ _ _ _ hpop
          simp only [List.append_nil] at e1
          subst e1
          have hR : fr2 + 1 ≤ R.frames ∧ 8 + (nL2 + 11) + lo2 ≤ R.locals := ⟨Nat.le_trans (Nat.le_of_ble_eq_true w4) hfr, Nat.le_trans (Nat.le_of_ble_eq_true w5) hlo⟩
          have hnp : as'.length = np2 := by rw [e2]; exact (Nat.eq_of_beq_eq_true w3).symm
          intro a1 b1 H ls locs r1 r2 r3 r4
          obtain ⟨q1, hcv, -⟩ := mq_ob_spec (g := g) r1.2.2.2.2.2.2.2 hob hg
          obtain ⟨-, rr', hrr', cellB, g1, g2, g3, -⟩ := r1.obj q1
          refine mq_contG (a := (Value.ref (mq_ad g q) :: as'.map (mq_cv g)).toArray) C hle a1 b1 r1 r3 r4 ?_ K
          rw [e3, List.map_append, List.map_reverse, List.map_cons, hcv]
          have hp : PreV s H y2.cls (mq_ad g q) (mq_Pc g T (v :: as') h) (as'.map (mq_cv g)) := ⟨mq_blind g T _ h, ⟨cellB, g1, by rw [g3]; rfl, by rw [g2, ← hcls]; exact (hK.1 ci2 rr hrr).2.1⟩, fun U hU hW => by have := hPcU H r4.2.1 r1 r2 U hU hW; rw [List.map_cons, hcv] at this; exact this⟩
          rw [Bool.or_eq_true] at w7
          rcases w7 with w7 | w7
          · exact va_runV (As := as'.map (mq_cv g)) ⟨hx, hb, hml, hown, hts⟩ (hM hlt) ⟨callB_of np2 hts (mq_GI (hCs hlt)) rfl rfl rfl (hts _ (mq_hw_in u2)) (hts _ (mq_hw_in w7)) u3 hR, hts _ (mq_hw_in u5), hts _ (mq_hw_in u6)⟩ hp rfl (by rw [List.length_map]; exact hnp) r3.1 rfl (hcat _ h8 _ _ _) hd ⟨by have := hle.1; omega, by have := hle.2; omega⟩
          · exact va_runVN (As := as'.map (mq_cv g)) ⟨hx, hb, hml, hown, hts⟩ (hM hlt) ⟨va_cnB np2 hts (mq_GI (hCs hlt)) rfl rfl rfl (hNw _ (mq_hn_in w7)) (hts _ (mq_hw_in u2)) u3 hR, hts _ (mq_hw_in u5), hts _ (mq_hw_in u6)⟩ hp rfl (by rw [List.length_map]; exact hnp) r3.1 rfl (hcat _ h8 _ _ _) hd ⟨by have := hle.1; omega, by have := hle.2; omega⟩
        · cases u7
      · cases hs
    · cases hs
  all_goals
    exfalso
    dsimp only [mq_step] at hs
    first
      | (cases hs; done)
      | (unfold mq_ldI at hs; split at hs <;> cases hs)
      | (unfold mq_ldJ at hs; split at hs <;> cases hs)
      | (unfold mq_ldA at hs; split at hs <;> cases hs)
      | (unfold mq_stI at hs; split at hs <;> cases hs)
      | (unfold mq_stJ at hs; split at hs <;> cases hs)
      | (unfold mq_stA at hs; split at hs <;> cases hs)
      | (unfold mq_c0 at hs; split at hs <;> cases hs)
      | (unfold mq_cr at hs; split at hs <;> cases hs)
      | ((try simp only [Bool.cond_eq_ite, mq_gf, mq_pf] at hs); repeat' split at hs
         all_goals (cases hs; done))
/-- A METHOD's CONTRACT out of the picture of its body -/
theorem mq_met {P : mq_P} {m' : Nat} {as : List Value} {L' : mq_L} {v1 : Option Value} {h1 : mq_H} {y2 : MethodName} {bs2 : ByteArray} {nL2 : Nat} {ret2 : Option FieldType} {fr2 lo2 kd2 ci2 np2 j1 j2 j3 j4 : Nat} (hm : P.1 m' = some (y2, bs2, nL2, ret2, fr2, lo2, kd2, ci2, np2, j1, j2, j3, j4)) (hpl : plainName y2.cls = true) (hL : mq_args P m' as = some L') (hle : mq_le h h1)
    (hW : ∀ (p : Program) (e : Env) (R : Room) (s : State) (mid : MethodId) (args : Array Value) (below : List Frame) (meth : Method) (c : Code), mq_ctx g p R s mid args meth c y2 bs2 nL2 ret2 fr2 lo2 → mq_N h1 - mq_N h ≤ R.cells → mq_Z h1 - mq_Z h ≤ R.slots → mq_good g T p l e R s mid args below meth c (MQ below (mq_Qc g T v1 h1) args s (mq_N h1 - mq_N h) (mq_Z h1 - mq_Z h) (fun q : Nat => g.1 ≤ q)) (mq_N h) (mq_Z h) nL2 0 L' [] h) :
    Met l y2 (Cond.code y2 bs2 nL2 ret2 :: mq_gw) ({ frames := fr2, cells := mq_N h1 - mq_N h, slots := mq_Z h1 - mq_Z h, locals := lo2 }) (mq_Pc g T as h) (mq_Qc g T v1 h1) (mq_N h1 - mq_N h) (mq_Z h1 - mq_Z h) (fun q : Nat => g.1 ≤ q) := by
  refine Met.ofW (cc := bs2) (maxL := nL2) (ret := ret2) hpl rfl ?_
  intro p e s mid args below meth c s₁ B hml hv
  obtain ⟨rfl, r1, r2, hK, hNw, hA1, hA2⟩ := hv
  have hts : ∀ w ∈ (Cond.code y2 bs2 nL2 ret2 :: mq_gw), w.before _ s = true := atoms_spec (ws := Cond.code y2 bs2 nL2 ret2 :: mq_gw) B.pre
  have hown : s.vm.findClass y2.cls = some mid.cls := findClass_of_methodNamed B.named
  have hnm := (name_of_methodNamed B.named B.method).1
  have hsz : g.1 ≤ s.heap.size := by rw [r1.2.1]; omega
  have hcat : mq_cat as ≤ nL2 ∧ L' = mq_en as nL2 := by
    unfold mq_args at hL
    rw [hm] at hL
    obtain ⟨z1, z2⟩ := mq_bif_t hL
    exact ⟨Nat.le_of_ble_eq_true z1, z2.symm⟩
  obtain ⟨hcat, rfl⟩ := hcat
  have C : mq_ctx g p ({ frames := fr2, cells := mq_N h1 - mq_N h, slots := mq_Z h1 - mq_Z h, locals := lo2 } : Room) s mid (as.map (mq_cv g)).toArray meth c y2 bs2 nL2 ret2 fr2 lo2 := ⟨B.exec, B.bytes, hml, B.returns, hown, fun q => by rw [hnm]; exact q, B.notSynchronized, Nat.le_refl _, Nat.le_refl _, fun w hw => hts w (List.mem_cons_of_mem _ hw), hK, hNw, hA1, hA2, hsz⟩
  have hG := hW p e _ s mid (as.map (mq_cv g)).toArray below meth c C (Nat.le_refl _) (Nat.le_refl _)
  have hl := lv_entry (as.map (mq_cv g)) (n := nL2) (by rw [mq_cat_sl]; exact hcat)
  rw [lg_entry_eq]
  have := hG (Nat.le_refl _) (Nat.le_refl _) s.heap _ [] r1 r2 (⟨hl.1, hl.2.1, fun i v hv => by have := mq_en_get g as nL2 0 i v hv; rw [Nat.zero_add] at this; exact hl.2.2 _ this⟩) va_S.rf
  rw [Nat.sub_self, Nat.sub_self] at this
  exact this
/-- RUNS ARE FOLLOWED -/
theorem mq_sound {P : mq_P} {nM : Nat} (hP : ∀ m pc e, P.2 m pc = some e → mq_okE P nM m pc e = true) (hMs : ∀ m M, m < nM → P.1 m = some M → mq_okM M = true) (hCd : ∀ m M, m < nM → P.1 m = some M → mq_cod M) : ∀ (f : Nat) (m pc : Nat) (L : mq_L) (st : List Value) (h : mq_H) (v : Option Value) (hf : mq_H), mq_run P T f m pc L st h = some (v, hf) → ∀ (p : Program) (e : Env) (R : Room) (s : State) (mid : MethodId) (args : Array Value) (below : List Frame) (meth : Method) (c : Code) (Q : State → Prop) (n0 z0 : Nat) (y : MethodName) (bs : ByteArray) (nL : Nat) (ret : Option FieldType) (fr lo : Nat) (M : Nat × Nat × Nat × Nat × Nat × Nat × Nat), P.1 m = some (y, bs, nL, ret, fr, lo, M) → mq_ctx g p R s mid args meth c y bs nL ret fr lo → mq_N hf - n0 ≤ R.cells → mq_Z hf - z0 ≤ R.slots → (∀ (pc nx a b c' j : Nat) (ins : Instr) (k : Int32) (L : mq_L) (st : List Value) (o : Option Bool), P.2 m pc = some (ins, nx, a, b, c', k, j) → mq_step T ins pc nx a b c' k L st hf = some (.inr (.inr (.inr (.inr (.inr (o, v)))))) → mq_gB o = true → mq_good g T p l e R s mid args below meth c Q n0 z0 nL pc L st hf) → mq_good g T p l e R s mid args below meth c Q n0 z0 nL pc L st h
  | 0, _, _, _, _, _, _, _, hr => by cases hr
  | f + 1, m, pc, L, st, h, v, hf, hr => by
    intro p e R s mid args below meth c Q n0 z0 y bs nL ret fr lo M hm C hc1 hc2 HR
    have hr : mq_body P T (mq_run P T f) m pc L st h = some (v, hf) := hr
    unfold mq_body at hr
    split at hr
    · cases hr
    · rename_i ins nx a b c' k j hcd
      have hokE := hP _ _ _ hcd
      unfold mq_okE at hokE
      rw [hm] at hokE
      dsimp only at hokE
      rw [Bool.and_eq_true] at hokE
      obtain ⟨ho1, hok⟩ := hokE
      have hde : mq_isSw ins = true → decode bs pc = .ok (ins, nx - pc) := fun z => by rw [z] at ho1; exact of_decide_eq_true ho1
      have hdn : mq_isSw ins = false → decode bs pc = .ok (ins, mq_ln ins) ∧ nx = pc + mq_ln ins := fun z => by
        rw [z] at ho1
        dsimp only [cond_false] at ho1
        rw [Bool.and_eq_true] at ho1
        exact ⟨of_decide_eq_true ho1.1, Nat.eq_of_beq_eq_true ho1.2⟩
      have hleN : ∀ {m' pc' L' st' h'} {w : Option Value × mq_H}, mq_run P T f m' pc' L' st' h' = some w → mq_le h' w.2 := fun {m' pc' L' st' h'} {w} z => mq_runN f _ _ _ _ _ w.1 w.2 z
      cases hX : mq_step T ins pc nx a b c' k L st h with
      | none => rw [hX] at hr; cases hr
      | some X =>
        rw [hX] at hr
        have h1 := fun hcap => mq_sound1 (l := l) (e := e) (below := below) (Q := Q) (n0 := n0) (z0 := z0) (P := P) (nM := nM) C hde hdn hok hX hcap
        rcases X with ⟨o, pc', L', st', h'⟩ | ⟨o, x', z, t, e', st'⟩ | ⟨o, w, pc', st'⟩ | ⟨x', ll, d, st'⟩ | ⟨o, m', as, st', pc'⟩ | ⟨o, v'⟩
        · dsimp only [mq_af] at hr
          cases hg : mq_gB o with
          | false => rw [hg] at hr; cases hr
          | true =>
            rw [hg] at hr
            have hr : mq_run P T f m pc' L' st' h' = some (v, hf) := hr
            have hn : mq_le h' hf := hleN hr
            exact h1 (fun o1 pc1 L1 st1 h2 e1 => by cases e1; have := hn.1; have := hn.2; exact ⟨by omega, by omega⟩) hg (mq_sound hP hMs hCd f m pc' L' st' h' v hf hr p e R s mid args below meth c Q n0 z0 y bs nL ret fr lo M hm C hc1 hc2 HR)
        · have hr : mq_run P T f m (bif mq_cmp o x' z then t else e') L st' h = some (v, hf) := hr
          exact h1 (fun o1 pc1 L1 st1 h2 e1 => by cases e1) (mq_sound hP hMs hCd f m _ L st' h v hf hr p e R s mid args below meth c Q n0 z0 y bs nL ret fr lo M hm C hc1 hc2 HR)
        · dsimp only [mq_af] at hr
          cases hg : mq_gB o with
          | false => rw [hg] at hr; cases hr
          | true =>
            rw [hg] at hr
            have hr : mq_run P T f m pc' L (mq_pv w :: st') h = some (v, hf) := hr
            exact h1 (fun o1 pc1 L1 st1 h2 e1 => by cases e1) hg (mq_sound hP hMs hCd f m pc' L _ h v hf hr p e R s mid args below meth c Q n0 z0 y bs nL ret fr lo M hm C hc1 hc2 HR)
        · have hr : mq_run P T f m (mq_find x' ll d) L st' h = some (v, hf) := hr
          exact h1 (fun o1 pc1 L1 st1 h2 e1 => by cases e1) (mq_sound hP hMs hCd f m _ L st' h v hf hr p e R s mid args below meth c Q n0 z0 y bs nL ret fr lo M hm C hc1 hc2 HR)
        · dsimp only [mq_af] at hr
          cases hg : mq_gB o with
          | false => rw [hg] at hr; cases hr
          | true =>
            rw [hg] at hr
            dsimp only [cond_true] at hr
            cases ha : mq_args P m' as with
            | none => rw [ha] at hr; cases hr
            | some L' =>
              rw [ha] at hr
              dsimp only at hr
              cases hc : mq_run P T f m' 0 L' [] h with
              | none => rw [hc] at hr; cases hr
              | some w =>
                obtain ⟨v1, h1'⟩ := w
                rw [hc] at hr
                have hr : mq_run P T f m pc' L (mq_tl v1 st') h1' = some (v, hf) := hr
                have hn1 : mq_le h h1' := hleN hc
                have hn2 : mq_le h1' hf := hleN hr
                cases hm2 : P.1 m' with
                | none => unfold mq_args at ha; rw [hm2] at ha; cases ha
                | some M2 =>
                  obtain ⟨y2, bs2, nL2, ret2, fr2, lo2, kd2, ci2, np2, j1, j2, j3, j4⟩ := M2
                  have hK := mq_sound hP hMs hCd f m pc' L (mq_tl v1 st') h1' v hf hr p e R s mid args below meth c Q n0 z0 y bs nL ret fr lo M hm C hc1 hc2 HR
                  have hpl : m' < nM → plainName y2.cls = true := fun hlt => by
                    have := hMs m' _ hlt hm2
                    unfold mq_okM at this
                    dsimp only at this
                    simp only [Bool.and_eq_true, decide_eq_true_eq] at this
                    exact this.2.2.1
                  have hMet := fun hlt : m' < nM => mq_met (l := l) (T := T) (g := g) hm2 (hpl hlt) ha hn1 (v1 := v1) (fun p e R s mid args below meth c C' k1 k2 => mq_sound hP hMs hCd f m' 0 L' [] h v1 h1' hc p e R s mid args below meth c _ (mq_N h) (mq_Z h) y2 bs2 nL2 ret2 fr2 lo2 _ hm2 C' k1 k2 (fun pc nx a b c' j ins k L st o hcd2 hs2 hg2 => by
                    have hokE2 := hP _ _ _ hcd2
                    unfold mq_okE at hokE2
                    rw [hm2] at hokE2
                    dsimp only at hokE2
                    rw [Bool.and_eq_true] at hokE2
                    exact sd_ret (P := P) (nM := nM) C' (fun z => by
                      have ho1 := hokE2.1
                      rw [z] at ho1
                      dsimp only [cond_false] at ho1
                      rw [Bool.and_eq_true] at ho1
                      exact ⟨of_decide_eq_true ho1.1, Nat.eq_of_beq_eq_true ho1.2⟩) hokE2.2 hs2 hg2))
                  exact sd_call (P := P) (nM := nM) C hdn hok hX hg (fun hlt hm3 => hMs m' _ hlt hm3) hm2 (fun hlt => hCd m' _ hlt hm2) hMet hn1 (by have := hn2.1; omega) (by have := hn2.2; omega) hK
        · dsimp only [mq_af] at hr
          cases hg : mq_gB o with
          | false => rw [hg] at hr; cases hr
          | true =>
            rw [hg] at hr
            cases hr
            exact HR pc nx a b c' j ins k L st o hcd hX hg
end MQ7
end
