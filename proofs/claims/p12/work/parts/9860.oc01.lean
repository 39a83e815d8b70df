set_option maxRecDepth 100000 in
theorem mq_cw60 : Cond.code ⟨"RanOut$Places", "copyFrom", "(LRanOut$Places;)V"⟩ prog_10_method_6_code 2 none ∈ mq_gw := mq_cod_of (j := 1207) rfl
set_option maxRecDepth 100000 in
theorem mq_cw61 : Cond.code ⟨"RanOut$Plan", "<init>", "(LRanOut$Book;LRanOut$Clock;LRanOut$LastDays;)V"⟩ prog_11_method_1_code 4 none ∈ mq_gw := mq_cod_of (j := 554) rfl
set_option maxRecDepth 100000 in
theorem mq_cw62 : Cond.code ⟨"RanOut$Plan", "weigh", "(I)V"⟩ prog_11_method_2_code 3 none ∈ mq_gw := mq_cod_of (j := 1067) rfl
set_option maxRecDepth 100000 in
theorem mq_cw63 : Cond.code ⟨"RanOut$Plan", "setsFor", "(III)J"⟩ prog_11_method_3_code 8 (some .long) ∈ mq_gw := mq_cod_of (j := 1075) rfl
set_option maxRecDepth 100000 in
theorem mq_cw64 : Cond.code ⟨"RanOut$Plan", "keepingAll", "(II)J"⟩ prog_11_method_4_code 8 (some .long) ∈ mq_gw := mq_cod_of (j := 1102) rfl
set_option maxRecDepth 100000 in
theorem mq_cw65 : Cond.code ⟨"RanOut$Plan", "cheapestOf", "(J)I"⟩ prog_11_method_5_code 6 (some .int) ∈ mq_gw := mq_cod_of (j := 1111) rfl
set_option maxRecDepth 100000 in
theorem mq_cw66 : Cond.code ⟨"RanOut$Plan", "isCheaper", "(II)Z"⟩ prog_11_method_6_code 5 (some .boolean) ∈ mq_gw := mq_cod_of (j := 1119) rfl
set_option maxRecDepth 100000 in
theorem mq_cw67 : Cond.code ⟨"RanOut$Plan", "worthiestFor", "(I)I"⟩ prog_11_method_7_code 7 (some .int) ∈ mq_gw := mq_cod_of (j := 1138) rfl
set_option maxRecDepth 100000 in
theorem mq_cw68 : Cond.code ⟨"RanOut$Plan", "sumOf", "(I)I"⟩ prog_11_method_8_code 4 (some .int) ∈ mq_gw := mq_cod_of (j := 1142) rfl
set_option maxRecDepth 100000 in
theorem mq_cw69 : Cond.code ⟨"RanOut$Plan", "bestAct", "()I"⟩ prog_11_method_9_code 6 (some .int) ∈ mq_gw := mq_cod_of (j := 1151) rfl
set_option maxRecDepth 100000 in
theorem mq_cw70 : Cond.code ⟨"RanOut$Plan", "moreBy", "(I)I"⟩ prog_11_method_10_code 4 (some .int) ∈ mq_gw := mq_cod_of (j := 1155) rfl
set_option maxRecDepth 100000 in
theorem mq_cw71 : Cond.code ⟨"RanOut$Plan", "listContested", "(I)V"⟩ prog_11_method_11_code 5 none ∈ mq_gw := mq_cod_of (j := 1171) rfl
set_option maxRecDepth 100000 in
theorem mq_cw72 : Cond.code ⟨"RanOut$Plan", "claimOf", "(I)I"⟩ prog_11_method_12_code 2 (some .int) ∈ mq_gw := mq_cod_of (j := 1106) rfl
set_option maxRecDepth 100000 in
theorem mq_cw73 : Cond.code ⟨"RanOut$Plan", "contestedAt", "(I)I"⟩ prog_11_method_13_code 2 (some .int) ∈ mq_gw := mq_cod_of (j := 1185) rfl
set_option maxRecDepth 100000 in
theorem mq_cw74 : Cond.code ⟨"RanOut$Plan", "findDearest", "(I)V"⟩ prog_11_method_14_code 4 none ∈ mq_gw := mq_cod_of (j := 1175) rfl
set_option maxRecDepth 100000 in
theorem mq_cw75 : Cond.code ⟨"RanOut$Plan", "tryWithout", "(II)V"⟩ prog_11_method_15_code 5 none ∈ mq_gw := mq_cod_of (j := 1179) rfl
set_option maxRecDepth 100000 in
theorem mq_cw76 : Cond.code ⟨"RanOut$Reader", "<init>", "()V"⟩ prog_12_method_1_code 1 none ∈ mq_gw := mq_cod_of (j := 343) rfl
set_option maxRecDepth 100000 in
theorem mq_cw77 : Cond.code ⟨"RanOut$Reader", "putBytes", "(I)V"⟩ prog_12_method_2_code 3 none ∈ mq_gw := mq_cod_of (j := 656) rfl
set_option maxRecDepth 100000 in
theorem mq_cw78 : Cond.code ⟨"RanOut$Reader", "passOver", "()V"⟩ prog_12_method_3_code 1 none ∈ mq_gw := mq_cod_of (j := 668) rfl
set_option maxRecDepth 100000 in
theorem mq_cw79 : Cond.code ⟨"RanOut$Reader", "clearFault", "()V"⟩ prog_12_method_4_code 1 none ∈ mq_gw := mq_cod_of (j := 672) rfl
set_option maxRecDepth 100000 in
theorem mq_cw80 : Cond.code ⟨"RanOut$Reader", "readLaw", "()LRanOut$Law;"⟩ prog_12_method_5_code 2 (some (.object "RanOut$Law")) ∈ mq_gw := mq_cod_of (j := 676) rfl
set_option maxRecDepth 100000 in
theorem mq_cw81 : Cond.code ⟨"RanOut$Reader", "readLine", "()V"⟩ prog_12_method_6_code 6 none ∈ mq_gw := mq_cod_of (j := 751) rfl
set_option maxRecDepth 100000 in
theorem mq_cw82 : Cond.code ⟨"RanOut$Reader", "readDays", "()I"⟩ prog_12_method_7_code 2 (some .int) ∈ mq_gw := mq_cod_of (j := 759) rfl
set_option maxRecDepth 100000 in
theorem mq_cw83 : Cond.code ⟨"RanOut$Reader", "expect", "(II)I"⟩ prog_12_method_8_code 4 (some .int) ∈ mq_gw := mq_cod_of (j := 763) rfl
set_option maxRecDepth 100000 in
theorem mq_cw84 : Cond.code ⟨"RanOut$Reader", "blame", "(I)V"⟩ prog_12_method_9_code 2 none ∈ mq_gw := mq_cod_of (j := 755) rfl
set_option maxRecDepth 100000 in
theorem mq_cw85 : Cond.code ⟨"RanOut$Reader", "readCondition", "()V"⟩ prog_12_method_10_code 3 none ∈ mq_gw := mq_cod_of (j := 769) rfl
set_option maxRecDepth 100000 in
theorem mq_cw86 : Cond.code ⟨"RanOut$Reader", "readOpening", "()V"⟩ prog_12_method_11_code 1 none ∈ mq_gw := mq_cod_of (j := 773) rfl
set_option maxRecDepth 100000 in
theorem mq_cw87 : Cond.code ⟨"RanOut$Reader", "readQuantity", "(Z)V"⟩ prog_12_method_12_code 2 none ∈ mq_gw := mq_cod_of (j := 781) rfl
set_option maxRecDepth 100000 in
theorem mq_cw88 : Cond.code ⟨"RanOut$Reader", "readBehind", "(I)I"⟩ prog_12_method_13_code 5 (some .int) ∈ mq_gw := mq_cod_of (j := 789) rfl
set_option maxRecDepth 100000 in
theorem mq_cw89 : Cond.code ⟨"RanOut$Reader", "join", "(II)V"⟩ prog_12_method_14_code 3 none ∈ mq_gw := mq_cod_of (j := 793) rfl
set_option maxRecDepth 100000 in
theorem mq_cw90 : Cond.code ⟨"RanOut$Reader", "closeBracket", "()V"⟩ prog_12_method_15_code 1 none ∈ mq_gw := mq_cod_of (j := 801) rfl
set_option maxRecDepth 100000 in
theorem mq_cw91 : Cond.code ⟨"RanOut$Reader", "settle", "(I)V"⟩ prog_12_method_16_code 3 none ∈ mq_gw := mq_cod_of (j := 797) rfl
set_option maxRecDepth 100000 in
theorem mq_cw92 : Cond.code ⟨"RanOut$Reader", "holdBack", "(I)V"⟩ prog_12_method_17_code 2 none ∈ mq_gw := mq_cod_of (j := 777) rfl
set_option maxRecDepth 100000 in
theorem mq_cw93 : Cond.code ⟨"RanOut$Reader", "emit", "(I)V"⟩ prog_12_method_18_code 2 none ∈ mq_gw := mq_cod_of (j := 785) rfl
set_option maxRecDepth 100000 in
theorem mq_cw94 : Cond.code ⟨"RanOut$Reader", "levelOf", "(I)I"⟩ prog_12_method_19_code 1 (some .int) ∈ mq_gw := mq_cod_of (j := 747) rfl
set_option maxRecDepth 100000 in
theorem mq_cw95 : Cond.code ⟨"RanOut$Reader", "advance", "()V"⟩ prog_12_method_20_code 3 none ∈ mq_gw := mq_cod_of (j := 680) rfl
set_option maxRecDepth 100000 in
theorem mq_cw96 : Cond.code ⟨"RanOut$Reader", "wordOf", "(II)I"⟩ prog_12_method_21_code 7 (some .int) ∈ mq_gw := mq_cod_of (j := 690) rfl
set_option maxRecDepth 100000 in
theorem mq_cw97 : Cond.code ⟨"RanOut$Reader", "numberOf", "(II)I"⟩ prog_12_method_22_code 5 (some .int) ∈ mq_gw := mq_cod_of (j := 741) rfl
set_option maxRecDepth 100000 in
theorem mq_cw98 : Cond.code ⟨"RanOut$Reader", "isBlank", "(I)Z"⟩ prog_12_method_23_code 1 (some .boolean) ∈ mq_gw := mq_cod_of (j := 683) rfl
set_option maxRecDepth 100000 in
theorem mq_cw99 : Cond.code ⟨"RanOut$Reader", "isLetter", "(I)Z"⟩ prog_12_method_24_code 1 (some .boolean) ∈ mq_gw := mq_cod_of (j := 686) rfl
set_option maxRecDepth 100000 in
theorem mq_cw100 : Cond.code ⟨"RanOut$Reader", "isDigit", "(I)Z"⟩ prog_12_method_25_code 1 (some .boolean) ∈ mq_gw := mq_cod_of (j := 734) rfl
set_option maxRecDepth 100000 in
theorem mq_cw101 : Cond.code ⟨"RanOut$Reader", "isSign", "(I)Z"⟩ prog_12_method_26_code 1 (some .boolean) ∈ mq_gw := mq_cod_of (j := 744) rfl
set_option maxRecDepth 100000 in
theorem mq_cw102 : Cond.code ⟨"RanOut", "<init>", "()V"⟩ prog_1_method_1_code 1 none ∈ mq_gw := mq_cod_of (j := 133) rfl
set_option maxRecDepth 100000 in
theorem mq_cw103 : Cond.code ⟨"RanOut", "today", "(I)Z"⟩ prog_1_method_2_code 2 (some .boolean) ∈ mq_gw := mq_cod_of (j := 616) rfl
set_option maxRecDepth 100000 in
theorem mq_cw104 : Cond.code ⟨"RanOut", "holiday", "(I)Z"⟩ prog_1_method_3_code 2 (some .boolean) ∈ mq_gw := mq_cod_of (j := 624) rfl
set_option maxRecDepth 100000 in
theorem mq_cw105 : Cond.code ⟨"RanOut", "place", "(II)Z"⟩ prog_1_method_4_code 3 (some .boolean) ∈ mq_gw := mq_cod_of (j := 640) rfl
set_option maxRecDepth 100000 in
theorem mq_cw106 : Cond.code ⟨"RanOut", "change", "(IIIZ)Z"⟩ prog_1_method_5_code 5 (some .boolean) ∈ mq_gw := mq_cod_of (j := 644) rfl
set_option maxRecDepth 100000 in
theorem mq_cw107 : Cond.code ⟨"RanOut", "feed", "(IIIII)I"⟩ prog_1_method_6_code 6 (some .int) ∈ mq_gw := mq_cod_of (j := 652) rfl
set_option maxRecDepth 100000 in
theorem mq_cw108 : Cond.code ⟨"RanOut", "end", "(I)Z"⟩ prog_1_method_7_code 2 (some .boolean) ∈ mq_gw := mq_cod_of (j := 660) rfl
set_option maxRecDepth 100000 in
theorem mq_cw109 : Cond.code ⟨"RanOut", "text", "(I)I"⟩ prog_1_method_8_code 3 (some .int) ∈ mq_gw := mq_cod_of (j := 664) rfl
set_option maxRecDepth 100000 in
theorem mq_cw110 : Cond.code ⟨"RanOut", "fault", "(I)I"⟩ prog_1_method_9_code 2 (some .int) ∈ mq_gw := mq_cod_of (j := 853) rfl
set_option maxRecDepth 100000 in
theorem mq_cw111 : Cond.code ⟨"RanOut", "claim", "(IIIIII)I"⟩ prog_1_method_10_code 9 (some .int) ∈ mq_gw := mq_cod_of (j := 857) rfl
set_option maxRecDepth 100000 in
theorem mq_cw112 : Cond.code ⟨"RanOut", "fact", "(IIII)I"⟩ prog_1_method_11_code 6 (some .int) ∈ mq_gw := mq_cod_of (j := 865) rfl
set_option maxRecDepth 100000 in
theorem mq_cw113 : Cond.code ⟨"RanOut", "doubt", "(III)Z"⟩ prog_1_method_12_code 4 (some .boolean) ∈ mq_gw := mq_cod_of (j := 877) rfl
set_option maxRecDepth 100000 in
theorem mq_cw114 : Cond.code ⟨"RanOut", "last", "(I)I"⟩ prog_1_method_13_code 2 (some .int) ∈ mq_gw := mq_cod_of (j := 889) rfl
set_option maxRecDepth 100000 in
theorem mq_cw115 : Cond.code ⟨"RanOut", "step", "(III)I"⟩ prog_1_method_14_code 4 (some .int) ∈ mq_gw := mq_cod_of (j := 980) rfl
set_option maxRecDepth 100000 in
theorem mq_cw116 : Cond.code ⟨"RanOut", "span", "(II)I"⟩ prog_1_method_15_code 3 (some .int) ∈ mq_gw := mq_cod_of (j := 990) rfl
set_option maxRecDepth 100000 in
theorem mq_cw117 : Cond.code ⟨"RanOut", "changed", "(II)I"⟩ prog_1_method_16_code 6 (some .int) ∈ mq_gw := mq_cod_of (j := 1033) rfl
set_option maxRecDepth 100000 in
theorem mq_cw118 : Cond.code ⟨"RanOut", "hasOtherLastDay", "(I)Z"⟩ prog_1_method_17_code 3 (some .boolean) ∈ mq_gw := mq_cod_of (j := 1037) rfl
set_option maxRecDepth 100000 in
theorem mq_cw119 : Cond.code ⟨"RanOut", "act", "(IIIIIII)Z"⟩ prog_1_method_18_code 8 (some .boolean) ∈ mq_gw := mq_cod_of (j := 1047) rfl
