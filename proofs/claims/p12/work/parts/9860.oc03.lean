set_option maxRecDepth 100000 in
theorem mq_cw180 : Cond.code ⟨"RanOutModel", "isSo", "(II)Z"⟩ prog_14_method_46_code 5 (some .boolean) ∈ mq_gw := mq_cod_of (j := 1655) rfl
set_option maxRecDepth 100000 in
theorem mq_cw181 : Cond.code ⟨"RanOutModel", "takesFacts", "(II)V"⟩ prog_14_method_47_code 4 none ∈ mq_gw := mq_cod_of (j := 1627) rfl
set_option maxRecDepth 100000 in
theorem mq_cw182 : Cond.code ⟨"RanOutModel", "takesFact", "(II)V"⟩ prog_14_method_48_code 3 none ∈ mq_gw := mq_cod_of (j := 1635) rfl
set_option maxRecDepth 100000 in
theorem mq_cw183 : Cond.code ⟨"RanOutModel", "isOf", "(II)Z"⟩ prog_14_method_49_code 3 (some .boolean) ∈ mq_gw := mq_cod_of (j := 1631) rfl
set_option maxRecDepth 100000 in
theorem mq_cw184 : Cond.code ⟨"RanOutModel", "lawOn", "(II)I"⟩ prog_14_method_50_code 7 (some .int) ∈ mq_gw := mq_cod_of (j := 1643) rfl
set_option maxRecDepth 100000 in
theorem mq_cw185 : Cond.code ⟨"RanOutModel", "isOn", "(II)Z"⟩ prog_14_method_51_code 4 (some .boolean) ∈ mq_gw := mq_cod_of (j := 1663) rfl
set_option maxRecDepth 100000 in
theorem mq_cw186 : Cond.code ⟨"RanOutModel", "asks", "(III)V"⟩ prog_14_method_52_code 4 none ∈ mq_gw := mq_cod_of (j := 1647) rfl
set_option maxRecDepth 100000 in
theorem mq_cw187 : Cond.code ⟨"RanOutModel", "termLine", "(I)I"⟩ prog_14_method_53_code 3 (some .int) ∈ mq_gw := mq_cod_of (j := 1651) rfl
set_option maxRecDepth 100000 in
theorem mq_cw188 : Cond.code ⟨"RanOutModel", "isTouched", "(III)Z"⟩ prog_14_method_54_code 5 (some .boolean) ∈ mq_gw := mq_cod_of (j := 1668) rfl
set_option maxRecDepth 100000 in
theorem mq_cw189 : Cond.code ⟨"RanOutModel", "isBeyond", "(III)Z"⟩ prog_14_method_55_code 5 (some .boolean) ∈ mq_gw := mq_cod_of (j := 1672) rfl
set_option maxRecDepth 100000 in
theorem mq_cw190 : Cond.code ⟨"RanOutModel", "rolls", "(I)Z"⟩ prog_14_method_56_code 3 (some .boolean) ∈ mq_gw := mq_cod_of (j := 1676) rfl
set_option maxRecDepth 100000 in
theorem mq_cw191 : Cond.code ⟨"RanOutModel", "runsTo", "(II)I"⟩ prog_14_method_57_code 13 (some .int) ∈ mq_gw := mq_cod_of (j := 1639) rfl
set_option maxRecDepth 100000 in
theorem mq_cw192 : Cond.code ⟨"RanOutModel", "lastOf", "(I)I"⟩ prog_14_method_58_code 2 (some .int) ∈ mq_gw := mq_cod_of (j := 1623) rfl
set_option maxRecDepth 100000 in
theorem mq_cw193 : Cond.code ⟨"RanOutModel", "tells", "(I)I"⟩ prog_14_method_59_code 2 (some .int) ∈ mq_gw := mq_cod_of (j := 1685) rfl
set_option maxRecDepth 100000 in
theorem mq_cw194 : Cond.code ⟨"RanOutModel", "last", "(I)I"⟩ prog_14_method_60_code 2 (some .int) ∈ mq_gw := mq_cod_of (j := 1619) rfl
set_option maxRecDepth 100000 in
theorem mq_cw195 : Cond.code ⟨"RanOutModel", "aheadOf", "(II)V"⟩ prog_14_method_61_code 5 none ∈ mq_gw := mq_cod_of (j := 1693) rfl
set_option maxRecDepth 100000 in
theorem mq_cw196 : Cond.code ⟨"RanOutModel", "step", "(III)I"⟩ prog_14_method_62_code 5 (some .int) ∈ mq_gw := mq_cod_of (j := 1689) rfl
set_option maxRecDepth 100000 in
theorem mq_cw197 : Cond.code ⟨"RanOutModel", "spans", "(I)V"⟩ prog_14_method_63_code 8 none ∈ mq_gw := mq_cod_of (j := 1705) rfl
set_option maxRecDepth 100000 in
theorem mq_cw198 : Cond.code ⟨"RanOutModel", "hangs", "(I)I"⟩ prog_14_method_64_code 5 (some .int) ∈ mq_gw := mq_cod_of (j := 1701) rfl
set_option maxRecDepth 100000 in
theorem mq_cw199 : Cond.code ⟨"RanOutModel", "span", "(II)I"⟩ prog_14_method_65_code 3 (some .int) ∈ mq_gw := mq_cod_of (j := 1697) rfl
set_option maxRecDepth 100000 in
theorem mq_cw200 : Cond.code ⟨"RanOutModel", "changed", "(II)I"⟩ prog_14_method_66_code 8 (some .int) ∈ mq_gw := mq_cod_of (j := 1709) rfl
set_option maxRecDepth 100000 in
theorem mq_cw201 : Cond.code ⟨"RanOutModel", "actsOf", "(I)I"⟩ prog_14_method_67_code 4 (some .int) ∈ mq_gw := mq_cod_of (j := 1729) rfl
set_option maxRecDepth 100000 in
theorem mq_cw202 : Cond.code ⟨"RanOutModel", "isAlive", "(III)Z"⟩ prog_14_method_68_code 4 (some .boolean) ∈ mq_gw := mq_cod_of (j := 1733) rfl
set_option maxRecDepth 100000 in
theorem mq_cw203 : Cond.code ⟨"RanOutModel", "findsAlive", "(II)V"⟩ prog_14_method_69_code 5 none ∈ mq_gw := mq_cod_of (j := 1725) rfl
set_option maxRecDepth 100000 in
theorem mq_cw204 : Cond.code ⟨"RanOutModel", "toldActs", "()I"⟩ prog_14_method_70_code 3 (some .int) ∈ mq_gw := mq_cod_of (j := 1741) rfl
set_option maxRecDepth 100000 in
theorem mq_cw205 : Cond.code ⟨"RanOutModel", "costOf", "(I)I"⟩ prog_14_method_71_code 4 (some .int) ∈ mq_gw := mq_cod_of (j := 1745) rfl
set_option maxRecDepth 100000 in
theorem mq_cw206 : Cond.code ⟨"RanOutModel", "cheapestSet", "()I"⟩ prog_14_method_72_code 6 (some .int) ∈ mq_gw := mq_cod_of (j := 1737) rfl
set_option maxRecDepth 100000 in
theorem mq_cw207 : Cond.code ⟨"RanOutModel", "canAsk", "(I)Z"⟩ prog_14_method_73_code 2 (some .boolean) ∈ mq_gw := mq_cod_of (j := 1717) rfl
set_option maxRecDepth 100000 in
theorem mq_cw208 : Cond.code ⟨"RanOutModel", "findsWanted", "(I)V"⟩ prog_14_method_74_code 3 none ∈ mq_gw := mq_cod_of (j := 1721) rfl
set_option maxRecDepth 100000 in
theorem mq_cw209 : Cond.code ⟨"RanOutModel", "cheapest", "(II)I"⟩ prog_14_method_75_code 4 (some .int) ∈ mq_gw := mq_cod_of (j := 1713) rfl
set_option maxRecDepth 100000 in
theorem mq_cw210 : Cond.code ⟨"RanOutModel", "sumBy", "(I)I"⟩ prog_14_method_76_code 4 (some .int) ∈ mq_gw := mq_cod_of (j := 1757) rfl
set_option maxRecDepth 100000 in
theorem mq_cw211 : Cond.code ⟨"RanOutModel", "worth", "(III)I"⟩ prog_14_method_77_code 8 (some .int) ∈ mq_gw := mq_cod_of (j := 1753) rfl
set_option maxRecDepth 100000 in
theorem mq_cw212 : Cond.code ⟨"RanOutModel", "aliveBy", "(I)I"⟩ prog_14_method_78_code 4 (some .int) ∈ mq_gw := mq_cod_of (j := 1765) rfl
set_option maxRecDepth 100000 in
theorem mq_cw213 : Cond.code ⟨"RanOutModel", "one", "(II)I"⟩ prog_14_method_79_code 7 (some .int) ∈ mq_gw := mq_cod_of (j := 1761) rfl
set_option maxRecDepth 100000 in
theorem mq_cw214 : Cond.code ⟨"RanOutModel", "pay", "(I)I"⟩ prog_14_method_80_code 4 (some .int) ∈ mq_gw := mq_cod_of (j := 1769) rfl
set_option maxRecDepth 100000 in
theorem mq_cw215 : Cond.code ⟨"RanOutModel", "findsDisputes", "()V"⟩ prog_14_method_81_code 3 none ∈ mq_gw := mq_cod_of (j := 1783) rfl
set_option maxRecDepth 100000 in
theorem mq_cw216 : Cond.code ⟨"RanOutModel", "takesAway", "(IIZ)V"⟩ prog_14_method_82_code 6 none ∈ mq_gw := mq_cod_of (j := 1791) rfl
set_option maxRecDepth 100000 in
theorem mq_cw217 : Cond.code ⟨"RanOutModel", "costWithout", "(II)I"⟩ prog_14_method_83_code 4 (some .int) ∈ mq_gw := mq_cod_of (j := 1787) rfl
set_option maxRecDepth 100000 in
theorem mq_cw218 : Cond.code ⟨"RanOutModel", "isAhead", "(II)Z"⟩ prog_14_method_84_code 4 (some .boolean) ∈ mq_gw := mq_cod_of (j := 1795) rfl
set_option maxRecDepth 100000 in
theorem mq_cw219 : Cond.code ⟨"RanOutModel", "findsContest", "(II)V"⟩ prog_14_method_85_code 6 none ∈ mq_gw := mq_cod_of (j := 1779) rfl
set_option maxRecDepth 100000 in
theorem mq_cw220 : Cond.code ⟨"RanOutModel", "contest", "(III)I"⟩ prog_14_method_86_code 6 (some .int) ∈ mq_gw := mq_cod_of (j := 1775) rfl
set_option maxRecDepth 100000 in
theorem mq_cw221 : Cond.code ⟨"RanOutModel", "isDeadNow", "(I)Z"⟩ prog_14_method_87_code 2 (some .boolean) ∈ mq_gw := mq_cod_of (j := 1803) rfl
set_option maxRecDepth 100000 in
theorem mq_cw222 : Cond.code ⟨"RanOutModel", "beside", "(III)I"⟩ prog_14_method_88_code 8 (some .int) ∈ mq_gw := mq_cod_of (j := 1799) rfl
set_option maxRecDepth 100000 in
theorem mq_cw223 : Cond.code ⟨"RanOutModel", "kept", "(I)I"⟩ prog_14_method_89_code 2 (some .int) ∈ mq_gw := mq_cod_of (j := 1811) rfl
set_option maxRecDepth 100000 in
theorem mq_cw224 : Cond.code ⟨"RanOutModel", "keepsClaims", "()V"⟩ prog_14_method_90_code 2 none ∈ mq_gw := mq_cod_of (j := 1815) rfl
set_option maxRecDepth 100000 in
theorem mq_cw225 : Cond.code ⟨"RanOutModel", "keepsLaws", "()V"⟩ prog_14_method_91_code 2 none ∈ mq_gw := mq_cod_of (j := 1819) rfl
set_option maxRecDepth 100000 in
theorem mq_cw226 : Cond.code ⟨"RanOutModel", "image", "(Z)Z"⟩ prog_14_method_92_code 3 (some .boolean) ∈ mq_gw := mq_cod_of (j := 1807) rfl
set_option maxRecDepth 100000 in
theorem mq_cw227 : Cond.code ⟨"RanOutModel", "aliveNow", "(Z)I"⟩ prog_14_method_93_code 4 (some .int) ∈ mq_gw := mq_cod_of (j := 1827) rfl
set_option maxRecDepth 100000 in
theorem mq_cw228 : Cond.code ⟨"RanOutModel", "look", "(I)I"⟩ prog_14_method_94_code 4 (some .int) ∈ mq_gw := mq_cod_of (j := 1823) rfl
set_option maxRecDepth 100000 in
theorem mq_cw229 : Cond.code ⟨"java/lang/Integer", "bitCount", "(I)I"⟩ prog_16_method_49_code 1 (some .int) ∈ mq_gw := mq_cod_of (j := 1126) rfl
set_option maxRecDepth 100000 in
theorem mq_cw230 : Cond.code ⟨"java/util/Arrays", "fill", "([II)V"⟩ prog_22_method_103_code 4 none ∈ mq_gw := mq_cod_of (j := 293) rfl
set_option maxRecDepth 100000 in
theorem mq_cw231 : Cond.code ⟨"java/util/Arrays", "copyOf", "([II)[I"⟩ prog_22_method_123_code 3 (some (.array .int)) ∈ mq_gw := mq_cod_of (j := 804) rfl
