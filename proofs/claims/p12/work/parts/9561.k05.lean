theorem kt_130 : ck_me x_sup [(47, kc_47)] [134] [(130, 4, [(0, 2, 0, (-2147483648), 2147483647), (0, 3, 0, 0, 60)], 5312527176443436728320, [], (0, 3, 0), true)] 48 130 kc_130 = true := by decide +kernel
theorem kt_131 : ck_me x_sup [] [] [] 34 131 kc_131 = true := by decide +kernel
theorem kt_129 : ck_me x_sup [(2, kc_2), (130, kc_130), (131, kc_131), (229, kc_229)] [] [] 25 129 kc_129 = true := by decide +kernel
theorem kt_141 : ck_me x_sup [] [137] [(141, 29, [(0, 2, 0, 0, 6)], 316912650057057350374175801344, [], (0, 2, 0), true)] 50 141 kc_141 = true := by decide +kernel
theorem kt_142 : ck_me x_sup [] [137] [(142, 21, [(0, 2, 0, 0, 20)], 0, [], (0, 2, 0), true)] 44 142 kc_142 = true := by decide +kernel
theorem kt_143 : ck_me x_sup [] [] [(143, 12, [(0, 2, 0, 0, 20)], 0, [], (0, 2, 0), true)] 22 143 kc_143 = true := by decide +kernel
theorem kt_144 : ck_me x_sup [] [139, 140] [] 36 144 kc_144 = true := by decide +kernel
theorem kt_145 : ck_me x_sup [] [137, 139, 140] [] 102 145 kc_145 = true := by decide +kernel
theorem kt_147 : ck_me 0 [] [137, 139] [] 165 147 kc_147 = true := by decide +kernel
theorem kt_148 : ck_me 0 [] [137, 146] [] 119 148 kc_148 = true := by decide +kernel
theorem kt_149 : ck_me x_sup [] [] [(149, 6, [(0, 4, 0, (-2147483648), 2147483647), (0, 5, 0, 0, 12), (2, 6, 0, 0, 0)], 0, [], (0, 5, 0), true)] 40 149 kc_149 = true := by decide +kernel
theorem kt_150 : ck_me 0 [(149, kc_149)] [137, 146] [(150, 82, [(0, 4, 0, (-2147483648), 2147483647), (0, 5, 0, 0, 60)], 0, [], (0, 5, 0), true)] 92 150 kc_150 = true := by decide +kernel
theorem kt_151 : ck_me x_sup [] [146] [] 28 151 kc_151 = true := by decide +kernel
theorem kt_153 : ck_me x_sup [] [137, 146, 152] [] 179 153 kc_153 = true := by decide +kernel
theorem kt_155 : ck_me x_sup [] [154] [] 452 155 kc_155 = true := by decide +kernel
theorem kt_156 : ck_me x_sup [] [137] [] 26 156 kc_156 = true := by decide +kernel
theorem kt_178 : ck_me x_sup [] [] [] 14 178 kc_178 = true := by decide +kernel
theorem kt_183 : ck_me x_sup [] [] [] 39 183 kc_183 = true := by decide +kernel
theorem kt_181 : ck_me x_sup [(183, kc_183)] [182] [(181, 7, [(0, 3, 0, 0, 12), (3, 59, 52, 0, 12)], 2552117751907038475975309555738261585920, [((1, 59, 52), (0, 3, 0), 0)], (0, 3, 0), true), (181, 112, [(0, 3, 0, 0, 6), (3, 59, 52, 0, 18)], 2552117751907038475975309555738261585920, [((1, 59, 52), (0, 3, 0), 12)], (0, 3, 0), true)] 71 181 kc_181 = true := by decide +kernel
theorem kt_184 : ck_me x_sup [] [] [(184, 47, [(0, 4, 0, 0, 7), (0, 6, 0, 0, 28)], 0, [], (0, 6, 0), true)] 66 184 kc_184 = true := by decide +kernel
