set_option maxRecDepth 100000 in
theorem mq_cw120 : Cond.code ⟨"RanOut", "areActClaims", "(III)Z"⟩ prog_1_method_19_code 4 (some .boolean) ∈ mq_gw := mq_cod_of (j := 1051) rfl
set_option maxRecDepth 100000 in
theorem mq_cw121 : Cond.code ⟨"RanOut", "want", "(IZ)Z"⟩ prog_1_method_20_code 3 (some .boolean) ∈ mq_gw := mq_cod_of (j := 1055) rfl
set_option maxRecDepth 100000 in
theorem mq_cw122 : Cond.code ⟨"RanOut", "cheapest", "(II)I"⟩ prog_1_method_21_code 4 (some .int) ∈ mq_gw := mq_cod_of (j := 1059) rfl
set_option maxRecDepth 100000 in
theorem mq_cw123 : Cond.code ⟨"RanOut", "worth", "(III)I"⟩ prog_1_method_22_code 5 (some .int) ∈ mq_gw := mq_cod_of (j := 1134) rfl
set_option maxRecDepth 100000 in
theorem mq_cw124 : Cond.code ⟨"RanOut", "one", "(II)I"⟩ prog_1_method_23_code 4 (some .int) ∈ mq_gw := mq_cod_of (j := 1147) rfl
set_option maxRecDepth 100000 in
theorem mq_cw125 : Cond.code ⟨"RanOut", "pay", "(I)I"⟩ prog_1_method_24_code 4 (some .int) ∈ mq_gw := mq_cod_of (j := 1160) rfl
set_option maxRecDepth 100000 in
theorem mq_cw126 : Cond.code ⟨"RanOut", "contest", "(III)I"⟩ prog_1_method_25_code 4 (some .int) ∈ mq_gw := mq_cod_of (j := 1167) rfl
set_option maxRecDepth 100000 in
theorem mq_cw127 : Cond.code ⟨"RanOut", "beside", "(III)I"⟩ prog_1_method_26_code 9 (some .int) ∈ mq_gw := mq_cod_of (j := 1189) rfl
set_option maxRecDepth 100000 in
theorem mq_cw128 : Cond.code ⟨"RanOut", "image", "(Z)Z"⟩ prog_1_method_27_code 2 (some .boolean) ∈ mq_gw := mq_cod_of (j := 1199) rfl
set_option maxRecDepth 100000 in
theorem mq_cw129 : Cond.code ⟨"RanOut", "look", "(I)I"⟩ prog_1_method_28_code 2 (some .int) ∈ mq_gw := mq_cod_of (j := 1222) rfl
set_option maxRecDepth 100000 in
theorem mq_cw130 : Cond.code ⟨"RanOut", "countClaims", "(I)I"⟩ prog_1_method_29_code 4 (some .int) ∈ mq_gw := mq_cod_of (j := 1226) rfl
set_option maxRecDepth 100000 in
theorem mq_cw131 : Cond.code ⟨"RanOut", "lookAt", "(I)I"⟩ prog_1_method_30_code 2 (some .int) ∈ mq_gw := mq_cod_of (j := 1232) rfl
set_option maxRecDepth 100000 in
theorem mq_cw132 : Cond.code ⟨"RanOut", "isClaim", "(I)Z"⟩ prog_1_method_31_code 2 (some .boolean) ∈ mq_gw := mq_cod_of (j := 869) rfl
set_option maxRecDepth 100000 in
theorem mq_cw133 : Cond.code ⟨"RanOut", "isPlanned", "(I)Z"⟩ prog_1_method_32_code 2 (some .boolean) ∈ mq_gw := mq_cod_of (j := 1063) rfl
set_option maxRecDepth 100000 in
theorem mq_cw134 : Cond.code ⟨"RanOut", "isAlive", "(II)Z"⟩ prog_1_method_33_code 2 (some .boolean) ∈ mq_gw := mq_cod_of (j := 1097) rfl
set_option maxRecDepth 100000 in
theorem mq_cw135 : Cond.code ⟨"RanOut", "within", "(II)Z"⟩ prog_1_method_34_code 2 (some .boolean) ∈ mq_gw := mq_cod_of (j := 627) rfl
set_option maxRecDepth 100000 in
theorem mq_cw136 : Cond.code ⟨"RanOutModel", "<init>", "()V"⟩ prog_14_method_1_code 1 none ∈ mq_gw := mq_cod_of (j := 1237) rfl
set_option maxRecDepth 100000 in
theorem mq_cw137 : Cond.code ⟨"RanOutModel", "isIn", "(III)Z"⟩ prog_14_method_3_code 4 (some .boolean) ∈ mq_gw := mq_cod_of (j := 1463) rfl
set_option maxRecDepth 100000 in
theorem mq_cw138 : Cond.code ⟨"RanOutModel", "ones", "(I)I"⟩ prog_14_method_4_code 4 (some .int) ∈ mq_gw := mq_cod_of (j := 1749) rfl
set_option maxRecDepth 100000 in
theorem mq_cw139 : Cond.code ⟨"RanOutModel", "isPlace", "(I)Z"⟩ prog_14_method_5_code 2 (some .boolean) ∈ mq_gw := mq_cod_of (j := 1475) rfl
set_option maxRecDepth 100000 in
theorem mq_cw140 : Cond.code ⟨"RanOutModel", "isLaw", "(I)Z"⟩ prog_14_method_6_code 2 (some .boolean) ∈ mq_gw := mq_cod_of (j := 1479) rfl
set_option maxRecDepth 100000 in
theorem mq_cw141 : Cond.code ⟨"RanOutModel", "today", "(I)Z"⟩ prog_14_method_7_code 3 (some .boolean) ∈ mq_gw := mq_cod_of (j := 1459) rfl
set_option maxRecDepth 100000 in
theorem mq_cw142 : Cond.code ⟨"RanOutModel", "holiday", "(I)Z"⟩ prog_14_method_8_code 3 (some .boolean) ∈ mq_gw := mq_cod_of (j := 1467) rfl
set_option maxRecDepth 100000 in
theorem mq_cw143 : Cond.code ⟨"RanOutModel", "isOff", "(I)Z"⟩ prog_14_method_9_code 3 (some .boolean) ∈ mq_gw := mq_cod_of (j := 1680) rfl
set_option maxRecDepth 100000 in
theorem mq_cw144 : Cond.code ⟨"RanOutModel", "place", "(II)Z"⟩ prog_14_method_10_code 3 (some .boolean) ∈ mq_gw := mq_cod_of (j := 1471) rfl
set_option maxRecDepth 100000 in
theorem mq_cw145 : Cond.code ⟨"RanOutModel", "change", "(IIIZ)Z"⟩ prog_14_method_11_code 6 (some .boolean) ∈ mq_gw := mq_cod_of (j := 1483) rfl
set_option maxRecDepth 100000 in
theorem mq_cw146 : Cond.code ⟨"RanOutModel", "isClaim", "(I)Z"⟩ prog_14_method_12_code 2 (some .boolean) ∈ mq_gw := mq_cod_of (j := 1495) rfl
set_option maxRecDepth 100000 in
theorem mq_cw147 : Cond.code ⟨"RanOutModel", "claim", "(IIIIII)I"⟩ prog_14_method_13_code 7 (some .int) ∈ mq_gw := mq_cod_of (j := 1487) rfl
set_option maxRecDepth 100000 in
theorem mq_cw148 : Cond.code ⟨"RanOutModel", "fact", "(IIII)I"⟩ prog_14_method_14_code 6 (some .int) ∈ mq_gw := mq_cod_of (j := 1491) rfl
set_option maxRecDepth 100000 in
theorem mq_cw149 : Cond.code ⟨"RanOutModel", "doubtful", "(IIZ)I"⟩ prog_14_method_15_code 7 (some .int) ∈ mq_gw := mq_cod_of (j := 1503) rfl
set_option maxRecDepth 100000 in
theorem mq_cw150 : Cond.code ⟨"RanOutModel", "doubt", "(III)Z"⟩ prog_14_method_16_code 6 (some .boolean) ∈ mq_gw := mq_cod_of (j := 1499) rfl
set_option maxRecDepth 100000 in
theorem mq_cw151 : Cond.code ⟨"RanOutModel", "want", "(IZ)Z"⟩ prog_14_method_17_code 3 (some .boolean) ∈ mq_gw := mq_cod_of (j := 1507) rfl
set_option maxRecDepth 100000 in
theorem mq_cw152 : Cond.code ⟨"RanOutModel", "isOther", "(I)Z"⟩ prog_14_method_18_code 2 (some .boolean) ∈ mq_gw := mq_cod_of (j := 1515) rfl
set_option maxRecDepth 100000 in
theorem mq_cw153 : Cond.code ⟨"RanOutModel", "act", "(IIIIIII)Z"⟩ prog_14_method_19_code 8 (some .boolean) ∈ mq_gw := mq_cod_of (j := 1511) rfl
set_option maxRecDepth 100000 in
theorem mq_cw154 : Cond.code ⟨"RanOutModel", "types", "(I)V"⟩ prog_14_method_20_code 3 none ∈ mq_gw := mq_cod_of (j := 1523) rfl
set_option maxRecDepth 100000 in
theorem mq_cw155 : Cond.code ⟨"RanOutModel", "feed", "(IIIII)I"⟩ prog_14_method_21_code 6 (some .int) ∈ mq_gw := mq_cod_of (j := 1519) rfl
set_option maxRecDepth 100000 in
theorem mq_cw156 : Cond.code ⟨"RanOutModel", "end", "(I)Z"⟩ prog_14_method_22_code 2 (some .boolean) ∈ mq_gw := mq_cod_of (j := 1527) rfl
set_option maxRecDepth 100000 in
theorem mq_cw157 : Cond.code ⟨"RanOutModel", "raw", "(I)I"⟩ prog_14_method_23_code 2 (some .int) ∈ mq_gw := mq_cod_of (j := 1539) rfl
set_option maxRecDepth 100000 in
theorem mq_cw158 : Cond.code ⟨"RanOutModel", "isLetter", "(I)Z"⟩ prog_14_method_24_code 2 (some .boolean) ∈ mq_gw := mq_cod_of (j := 1543) rfl
set_option maxRecDepth 100000 in
theorem mq_cw159 : Cond.code ⟨"RanOutModel", "isDigit", "(I)Z"⟩ prog_14_method_25_code 2 (some .boolean) ∈ mq_gw := mq_cod_of (j := 1551) rfl
set_option maxRecDepth 100000 in
theorem mq_cw160 : Cond.code ⟨"RanOutModel", "isMarkSign", "(I)Z"⟩ prog_14_method_26_code 2 (some .boolean) ∈ mq_gw := mq_cod_of (j := 1555) rfl
set_option maxRecDepth 100000 in
theorem mq_cw161 : Cond.code ⟨"RanOutModel", "wordAt", "(II)I"⟩ prog_14_method_27_code 6 (some .int) ∈ mq_gw := mq_cod_of (j := 1547) rfl
set_option maxRecDepth 100000 in
theorem mq_cw162 : Cond.code ⟨"RanOutModel", "reads", "()V"⟩ prog_14_method_28_code 2 none ∈ mq_gw := mq_cod_of (j := 1535) rfl
set_option maxRecDepth 100000 in
theorem mq_cw163 : Cond.code ⟨"RanOutModel", "errs", "(I)I"⟩ prog_14_method_29_code 2 (some .int) ∈ mq_gw := mq_cod_of (j := 1563) rfl
set_option maxRecDepth 100000 in
theorem mq_cw164 : Cond.code ⟨"RanOutModel", "isWord", "(I)Z"⟩ prog_14_method_30_code 2 (some .boolean) ∈ mq_gw := mq_cod_of (j := 1571) rfl
set_option maxRecDepth 100000 in
theorem mq_cw165 : Cond.code ⟨"RanOutModel", "isSign", "(I)Z"⟩ prog_14_method_31_code 2 (some .boolean) ∈ mq_gw := mq_cod_of (j := 1583) rfl
set_option maxRecDepth 100000 in
theorem mq_cw166 : Cond.code ⟨"RanOutModel", "emits", "(II)V"⟩ prog_14_method_32_code 3 none ∈ mq_gw := mq_cod_of (j := 1607) rfl
set_option maxRecDepth 100000 in
theorem mq_cw167 : Cond.code ⟨"RanOutModel", "readUnit", "()I"⟩ prog_14_method_33_code 2 (some .int) ∈ mq_gw := mq_cod_of (j := 1603) rfl
set_option maxRecDepth 100000 in
theorem mq_cw168 : Cond.code ⟨"RanOutModel", "readProduct", "()I"⟩ prog_14_method_34_code 2 (some .int) ∈ mq_gw := mq_cod_of (j := 1599) rfl
set_option maxRecDepth 100000 in
theorem mq_cw169 : Cond.code ⟨"RanOutModel", "readSum", "()I"⟩ prog_14_method_35_code 2 (some .int) ∈ mq_gw := mq_cod_of (j := 1595) rfl
set_option maxRecDepth 100000 in
theorem mq_cw170 : Cond.code ⟨"RanOutModel", "readCompared", "()I"⟩ prog_14_method_36_code 2 (some .int) ∈ mq_gw := mq_cod_of (j := 1591) rfl
set_option maxRecDepth 100000 in
theorem mq_cw171 : Cond.code ⟨"RanOutModel", "waits", "(I)V"⟩ prog_14_method_37_code 2 none ∈ mq_gw := mq_cod_of (j := 1587) rfl
set_option maxRecDepth 100000 in
theorem mq_cw172 : Cond.code ⟨"RanOutModel", "settles", "(I)V"⟩ prog_14_method_38_code 2 none ∈ mq_gw := mq_cod_of (j := 1611) rfl
set_option maxRecDepth 100000 in
theorem mq_cw173 : Cond.code ⟨"RanOutModel", "readAny", "()I"⟩ prog_14_method_39_code 4 (some .int) ∈ mq_gw := mq_cod_of (j := 1579) rfl
set_option maxRecDepth 100000 in
theorem mq_cw174 : Cond.code ⟨"RanOutModel", "readDays", "(I)I"⟩ prog_14_method_40_code 3 (some .int) ∈ mq_gw := mq_cod_of (j := 1567) rfl
set_option maxRecDepth 100000 in
theorem mq_cw175 : Cond.code ⟨"RanOutModel", "readSort", "(I)I"⟩ prog_14_method_41_code 2 (some .int) ∈ mq_gw := mq_cod_of (j := 1575) rfl
set_option maxRecDepth 100000 in
theorem mq_cw176 : Cond.code ⟨"RanOutModel", "readText", "()I"⟩ prog_14_method_42_code 4 (some .int) ∈ mq_gw := mq_cod_of (j := 1559) rfl
set_option maxRecDepth 100000 in
theorem mq_cw177 : Cond.code ⟨"RanOutModel", "text", "(I)I"⟩ prog_14_method_43_code 5 (some .int) ∈ mq_gw := mq_cod_of (j := 1531) rfl
set_option maxRecDepth 100000 in
theorem mq_cw178 : Cond.code ⟨"RanOutModel", "fault", "(I)I"⟩ prog_14_method_44_code 2 (some .int) ∈ mq_gw := mq_cod_of (j := 1615) rfl
set_option maxRecDepth 100000 in
theorem mq_cw179 : Cond.code ⟨"RanOutModel", "twoOf", "(III)I"⟩ prog_14_method_45_code 4 (some .int) ∈ mq_gw := mq_cod_of (j := 1659) rfl
