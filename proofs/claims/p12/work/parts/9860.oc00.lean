set_option maxRecDepth 100000 in
theorem mq_cw0 : Cond.code ⟨"RanOut$Acts", "<init>", "()V"⟩ prog_2_method_1_code 1 none ∈ mq_gw := mq_cod_of (j := 289) rfl
set_option maxRecDepth 100000 in
theorem mq_cw1 : Cond.code ⟨"RanOut$Acts", "dropAhead", "(I)V"⟩ prog_2_method_2_code 3 none ∈ mq_gw := mq_cod_of (j := 620) rfl
set_option maxRecDepth 100000 in
theorem mq_cw2 : Cond.code ⟨"RanOut$Acts", "told", "()I"⟩ prog_2_method_3_code 3 (some .int) ∈ mq_gw := mq_cod_of (j := 1115) rfl
set_option maxRecDepth 100000 in
theorem mq_cw3 : Cond.code ⟨"RanOut$Acts", "toldOf", "(I)I"⟩ prog_2_method_4_code 5 (some .int) ∈ mq_gw := mq_cod_of (j := 1071) rfl
set_option maxRecDepth 100000 in
theorem mq_cw4 : Cond.code ⟨"RanOut$Acts", "costOf", "(I)I"⟩ prog_2_method_5_code 4 (some .int) ∈ mq_gw := mq_cod_of (j := 1123) rfl
set_option maxRecDepth 100000 in
theorem mq_cw5 : Cond.code ⟨"RanOut$Acts", "copyFrom", "(LRanOut$Acts;)V"⟩ prog_2_method_6_code 2 none ∈ mq_gw := mq_cod_of (j := 1217) rfl
set_option maxRecDepth 100000 in
theorem mq_cw6 : Cond.code ⟨"RanOut$Book", "<init>", "()V"⟩ prog_3_method_1_code 1 none ∈ mq_gw := mq_cod_of (j := 141) rfl
set_option maxRecDepth 100000 in
theorem mq_cw7 : Cond.code ⟨"RanOut$Book", "copyFrom", "(LRanOut$Book;)V"⟩ prog_3_method_2_code 2 none ∈ mq_gw := mq_cod_of (j := 1203) rfl
set_option maxRecDepth 100000 in
theorem mq_cw8 : Cond.code ⟨"RanOut$Case", "<init>", "(LRanOut$Book;)V"⟩ prog_4_method_1_code 2 none ∈ mq_gw := mq_cod_of (j := 415) rfl
set_option maxRecDepth 100000 in
theorem mq_cw9 : Cond.code ⟨"RanOut$Case", "load", "(II)V"⟩ prog_4_method_2_code 4 none ∈ mq_gw := mq_cod_of (j := 901) rfl
set_option maxRecDepth 100000 in
theorem mq_cw10 : Cond.code ⟨"RanOut$Case", "loadFacts", "()V"⟩ prog_4_method_3_code 2 none ∈ mq_gw := mq_cod_of (j := 905) rfl
set_option maxRecDepth 100000 in
theorem mq_cw11 : Cond.code ⟨"RanOut$Case", "loadLaws", "(I)V"⟩ prog_4_method_4_code 5 none ∈ mq_gw := mq_cod_of (j := 910) rfl
set_option maxRecDepth 100000 in
theorem mq_cw12 : Cond.code ⟨"RanOut$Case", "putLaw", "(II)V"⟩ prog_4_method_5_code 4 none ∈ mq_gw := mq_cod_of (j := 1194) rfl
set_option maxRecDepth 100000 in
theorem mq_cw13 : Cond.code ⟨"RanOut$Case", "takeAway", "(I)V"⟩ prog_4_method_6_code 3 none ∈ mq_gw := mq_cod_of (j := 1007) rfl
set_option maxRecDepth 100000 in
theorem mq_cw14 : Cond.code ⟨"RanOut$Case", "delay", "(II)V"⟩ prog_4_method_7_code 3 none ∈ mq_gw := mq_cod_of (j := 1025) rfl
set_option maxRecDepth 100000 in
theorem mq_cw15 : Cond.code ⟨"RanOut$Case", "add", "(II)V"⟩ prog_4_method_8_code 3 none ∈ mq_gw := mq_cod_of (j := 1089) rfl
set_option maxRecDepth 100000 in
theorem mq_cw16 : Cond.code ⟨"RanOut$Case", "addActs", "(I)V"⟩ prog_4_method_9_code 3 none ∈ mq_gw := mq_cod_of (j := 1085) rfl
set_option maxRecDepth 100000 in
theorem mq_cw17 : Cond.code ⟨"RanOut$Case", "lawOn", "(I)I"⟩ prog_4_method_10_code 4 (some .int) ∈ mq_gw := mq_cod_of (j := 926) rfl
set_option maxRecDepth 100000 in
theorem mq_cw18 : Cond.code ⟨"RanOut$Case", "sortsOn", "(I)I"⟩ prog_4_method_11_code 4 (some .int) ∈ mq_gw := mq_cod_of (j := 945) rfl
set_option maxRecDepth 100000 in
theorem mq_cw19 : Cond.code ⟨"RanOut$Case", "turnBehind", "(ILRanOut$Law;)I"⟩ prog_4_method_12_code 6 (some .int) ∈ mq_gw := mq_cod_of (j := 965) rfl
set_option maxRecDepth 100000 in
theorem mq_cw20 : Cond.code ⟨"RanOut$Case", "sooner", "(III)I"⟩ prog_4_method_13_code 3 (some .int) ∈ mq_gw := mq_cod_of (j := 968) rfl
set_option maxRecDepth 100000 in
theorem mq_cw21 : Cond.code ⟨"RanOut$Claims", "<init>", "()V"⟩ prog_5_method_1_code 1 none ∈ mq_gw := mq_cod_of (j := 214) rfl
set_option maxRecDepth 100000 in
theorem mq_cw22 : Cond.code ⟨"RanOut$Claims", "putFact", "(IIII)I"⟩ prog_5_method_2_code 7 (some .int) ∈ mq_gw := mq_cod_of (j := 873) rfl
set_option maxRecDepth 100000 in
theorem mq_cw23 : Cond.code ⟨"RanOut$Claims", "mayBe", "(III)Z"⟩ prog_5_method_3_code 8 (some .boolean) ∈ mq_gw := mq_cod_of (j := 881) rfl
set_option maxRecDepth 100000 in
theorem mq_cw24 : Cond.code ⟨"RanOut$Claims", "contestedInAll", "()I"⟩ prog_5_method_4_code 4 (some .int) ∈ mq_gw := mq_cod_of (j := 885) rfl
set_option maxRecDepth 100000 in
theorem mq_cw25 : Cond.code ⟨"RanOut$Claims", "copyFrom", "(LRanOut$Claims;)V"⟩ prog_5_method_5_code 2 none ∈ mq_gw := mq_cod_of (j := 1212) rfl
set_option maxRecDepth 100000 in
theorem mq_cw26 : Cond.code ⟨"RanOut$Clock", "<init>", "(LRanOut$Book;)V"⟩ prog_6_method_1_code 2 none ∈ mq_gw := mq_cod_of (j := 409) rfl
set_option maxRecDepth 100000 in
theorem mq_cw27 : Cond.code ⟨"RanOut$Clock", "load", "(I)V"⟩ prog_6_method_2_code 2 none ∈ mq_gw := mq_cod_of (j := 897) rfl
set_option maxRecDepth 100000 in
theorem mq_cw28 : Cond.code ⟨"RanOut$Clock", "loadWithoutLastChange", "(I)V"⟩ prog_6_method_3_code 2 none ∈ mq_gw := mq_cod_of (j := 1041) rfl
set_option maxRecDepth 100000 in
theorem mq_cw29 : Cond.code ⟨"RanOut$Clock", "begin", "()V"⟩ prog_6_method_4_code 1 none ∈ mq_gw := mq_cod_of (j := 914) rfl
set_option maxRecDepth 100000 in
theorem mq_cw30 : Cond.code ⟨"RanOut$Clock", "mark", "()V"⟩ prog_6_method_5_code 1 none ∈ mq_gw := mq_cod_of (j := 1011) rfl
set_option maxRecDepth 100000 in
theorem mq_cw31 : Cond.code ⟨"RanOut$Clock", "goBack", "()V"⟩ prog_6_method_6_code 1 none ∈ mq_gw := mq_cod_of (j := 1019) rfl
set_option maxRecDepth 100000 in
theorem mq_cw32 : Cond.code ⟨"RanOut$Clock", "hasEnded", "()Z"⟩ prog_6_method_7_code 1 (some .boolean) ∈ mq_gw := mq_cod_of (j := 1093) rfl
set_option maxRecDepth 100000 in
theorem mq_cw33 : Cond.code ⟨"RanOut$Clock", "lastDay", "()I"⟩ prog_6_method_8_code 1 (some .int) ∈ mq_gw := mq_cod_of (j := 976) rfl
set_option maxRecDepth 100000 in
theorem mq_cw34 : Cond.code ⟨"RanOut$Clock", "goThrough", "(I)V"⟩ prog_6_method_9_code 3 none ∈ mq_gw := mq_cod_of (j := 918) rfl
set_option maxRecDepth 100000 in
theorem mq_cw35 : Cond.code ⟨"RanOut$Clock", "goOnto", "(I)V"⟩ prog_6_method_10_code 2 none ∈ mq_gw := mq_cod_of (j := 985) rfl
set_option maxRecDepth 100000 in
theorem mq_cw36 : Cond.code ⟨"RanOut$Clock", "goDay", "(I)V"⟩ prog_6_method_11_code 4 none ∈ mq_gw := mq_cod_of (j := 922) rfl
set_option maxRecDepth 100000 in
theorem mq_cw37 : Cond.code ⟨"RanOut$Clock", "findTerm", "(LRanOut$Law;I)V"⟩ prog_6_method_12_code 5 none ∈ mq_gw := mq_cod_of (j := 930) rfl
set_option maxRecDepth 100000 in
theorem mq_cw38 : Cond.code ⟨"RanOut$Clock", "hasLine", "(LRanOut$Law;III)Z"⟩ prog_6_method_13_code 7 (some .boolean) ∈ mq_gw := mq_cod_of (j := 949) rfl
set_option maxRecDepth 100000 in
theorem mq_cw39 : Cond.code ⟨"RanOut$Clock", "isLongOver", "(LRanOut$Law;I)Z"⟩ prog_6_method_14_code 5 (some .boolean) ∈ mq_gw := mq_cod_of (j := 953) rfl
set_option maxRecDepth 100000 in
theorem mq_cw40 : Cond.code ⟨"RanOut$Clock", "calmThrough", "(II)I"⟩ prog_6_method_15_code 4 (some .int) ∈ mq_gw := mq_cod_of (j := 961) rfl
set_option maxRecDepth 100000 in
theorem mq_cw41 : Cond.code ⟨"RanOut$Clock", "holds", "(LRanOut$Line;I)Z"⟩ prog_6_method_16_code 7 (some .boolean) ∈ mq_gw := mq_cod_of (j := 934) rfl
set_option maxRecDepth 100000 in
theorem mq_cw42 : Cond.code ⟨"RanOut$Clock", "valueOf", "(II)I"⟩ prog_6_method_17_code 3 (some .int) ∈ mq_gw := mq_cod_of (j := 938) rfl
set_option maxRecDepth 100000 in
theorem mq_cw43 : Cond.code ⟨"RanOut$Clock", "joined", "(III)I"⟩ prog_6_method_18_code 3 (some .int) ∈ mq_gw := mq_cod_of (j := 941) rfl
set_option maxRecDepth 100000 in
theorem mq_cw44 : Cond.code ⟨"RanOut$LastDays", "<init>", "(LRanOut$Book;LRanOut$Clock;)V"⟩ prog_7_method_1_code 3 none ∈ mq_gw := mq_cod_of (j := 521) rfl
set_option maxRecDepth 100000 in
theorem mq_cw45 : Cond.code ⟨"RanOut$LastDays", "forgetAll", "()V"⟩ prog_7_method_2_code 1 none ∈ mq_gw := mq_cod_of (j := 526) rfl
set_option maxRecDepth 100000 in
theorem mq_cw46 : Cond.code ⟨"RanOut$LastDays", "forgetOne", "(I)V"⟩ prog_7_method_3_code 2 none ∈ mq_gw := mq_cod_of (j := 861) rfl
set_option maxRecDepth 100000 in
theorem mq_cw47 : Cond.code ⟨"RanOut$LastDays", "lastOf", "(I)I"⟩ prog_7_method_4_code 2 (some .int) ∈ mq_gw := mq_cod_of (j := 893) rfl
set_option maxRecDepth 100000 in
theorem mq_cw48 : Cond.code ⟨"RanOut$LastDays", "measure", "(I)V"⟩ prog_7_method_5_code 9 none ∈ mq_gw := mq_cod_of (j := 994) rfl
set_option maxRecDepth 100000 in
theorem mq_cw49 : Cond.code ⟨"RanOut$LastDays", "waysOf", "(I)I"⟩ prog_7_method_6_code 1 (some .int) ∈ mq_gw := mq_cod_of (j := 998) rfl
set_option maxRecDepth 100000 in
theorem mq_cw50 : Cond.code ⟨"RanOut$LastDays", "lastWithout", "(II)I"⟩ prog_7_method_7_code 3 (some .int) ∈ mq_gw := mq_cod_of (j := 1003) rfl
set_option maxRecDepth 100000 in
theorem mq_cw51 : Cond.code ⟨"RanOut$LastDays", "stretch", "(II)V"⟩ prog_7_method_8_code 8 none ∈ mq_gw := mq_cod_of (j := 1015) rfl
set_option maxRecDepth 100000 in
theorem mq_cw52 : Cond.code ⟨"RanOut$LastDays", "isLater", "(II)Z"⟩ prog_7_method_9_code 2 (some .boolean) ∈ mq_gw := mq_cod_of (j := 1029) rfl
set_option maxRecDepth 100000 in
theorem mq_cw53 : Cond.code ⟨"RanOut$Law", "<init>", "([LRanOut$Line;I)V"⟩ prog_8_method_1_code 5 none ∈ mq_gw := mq_cod_of (j := 156) rfl
set_option maxRecDepth 100000 in
theorem mq_cw54 : Cond.code ⟨"RanOut$Line", "<init>", "(IIII[IZ)V"⟩ prog_9_method_1_code 7 none ∈ mq_gw := mq_cod_of (j := 817) rfl
set_option maxRecDepth 100000 in
theorem mq_cw55 : Cond.code ⟨"RanOut$Places", "<init>", "()V"⟩ prog_10_method_1_code 3 none ∈ mq_gw := mq_cod_of (j := 147) rfl
set_option maxRecDepth 100000 in
theorem mq_cw56 : Cond.code ⟨"RanOut$Places", "putHoliday", "(I)Z"⟩ prog_10_method_2_code 2 (some .boolean) ∈ mq_gw := mq_cod_of (j := 631) rfl
set_option maxRecDepth 100000 in
theorem mq_cw57 : Cond.code ⟨"RanOut$Places", "isHoliday", "(I)Z"⟩ prog_10_method_3_code 3 (some .boolean) ∈ mq_gw := mq_cod_of (j := 635) rfl
set_option maxRecDepth 100000 in
theorem mq_cw58 : Cond.code ⟨"RanOut$Places", "isOff", "(I)Z"⟩ prog_10_method_4_code 2 (some .boolean) ∈ mq_gw := mq_cod_of (j := 957) rfl
set_option maxRecDepth 100000 in
theorem mq_cw59 : Cond.code ⟨"RanOut$Places", "putChange", "(IIIZ)Z"⟩ prog_10_method_5_code 7 (some .boolean) ∈ mq_gw := mq_cod_of (j := 648) rfl
