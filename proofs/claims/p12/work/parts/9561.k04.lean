theorem kt_106 : ck_me x_sup [(45, kc_45)] [59, 135] [] 94 106 kc_106 = true := by decide +kernel
theorem kt_107 : ck_me x_sup [(77, kc_77)] [] [] 31 107 kc_107 = true := by decide +kernel
theorem kt_108 : ck_me x_sup [] [] [] 15 108 kc_108 = true := by decide +kernel
theorem kt_110 : ck_me x_sup [] [] [] 12 110 kc_110 = true := by decide +kernel
theorem kt_111 : ck_me x_sup [] [46, 135] [] 152 111 kc_111 = true := by decide +kernel
theorem kt_112 : ck_me x_sup [(22, kc_22)] [46, 132, 135] [] 95 112 kc_112 = true := by decide +kernel
theorem kt_113 : ck_me x_sup [(23, kc_23)] [46, 132, 135] [] 79 113 kc_113 = true := by decide +kernel
theorem kt_114 : ck_me x_sup [(47, kc_47)] [132, 135] [] 27 114 kc_114 = true := by decide +kernel
theorem kt_115 : ck_me x_sup [(27, kc_27), (35, kc_35)] [132, 135] [] 59 115 kc_115 = true := by decide +kernel
theorem kt_116 : ck_me x_sup [(48, kc_48)] [132, 135] [] 42 116 kc_116 = true := by decide +kernel
theorem kt_118 : ck_me x_sup [(28, kc_28), (33, kc_33), (34, kc_34), (47, kc_47)] [] [] 23 118 kc_118 = true := by decide +kernel
theorem kt_117 : ck_me x_sup [(118, kc_118)] [135] [(117, 45, [(0, 3, 0, (-2147483648), 2147483647), (0, 4, 0, (-1), 59), (0, 5, 0, 0, 60)], 5312527176443436728320, [], (0, 5, 0), true)] 59 117 kc_117 = true := by decide +kernel
theorem kt_119 : ck_me x_sup [] [120, 132, 135] [] 178 119 kc_119 = true := by decide +kernel
theorem kt_121 : ck_me x_sup [] [132, 135] [] 30 121 kc_121 = true := by decide +kernel
theorem kt_122 : ck_me x_sup [(4, kc_4), (62, kc_62), (64, kc_64), (65, kc_65)] [133] [] 50 122 kc_122 = true := by decide +kernel
theorem kt_123 : ck_me x_sup [(4, kc_4), (62, kc_62), (67, kc_67), (68, kc_68)] [133, 135] [] 58 123 kc_123 = true := by decide +kernel
theorem kt_124 : ck_me x_sup [(62, kc_62), (69, kc_69), (70, kc_70)] [133] [] 44 124 kc_124 = true := by decide +kernel
theorem kt_125 : ck_me x_sup [(15, kc_15), (27, kc_27), (33, kc_33), (34, kc_34), (47, kc_47)] [132, 135] [] 59 125 kc_125 = true := by decide +kernel
theorem kt_126 : ck_me x_sup [(62, kc_62), (71, kc_71), (74, kc_74)] [73, 133, 135] [] 77 126 kc_126 = true := by decide +kernel
theorem kt_127 : ck_me x_sup [(12, kc_12), (27, kc_27), (32, kc_32), (34, kc_34), (47, kc_47)] [134, 135] [(127, 38, [(0, 4, 0, (-2147483648), 2147483647), (0, 5, 0, (-2147483648), 2147483647), (0, 6, 0, 0, 60), (2, 7, 0, 0, 0), (2, 8, 0, 0, 0)], 5312527176443436728320, [], (0, 6, 0), true)] 102 127 kc_127 = true := by decide +kernel
