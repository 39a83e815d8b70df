theorem kt_98 : ck_me x_sup [] [] [] 11 98 kc_98 = true := by decide +kernel
theorem kt_99 : ck_me x_sup [] [] [] 16 99 kc_99 = true := by decide +kernel
theorem kt_100 : ck_me x_sup [] [] [] 11 100 kc_100 = true := by decide +kernel
theorem kt_94 : ck_me x_sup [] [] [] 6 94 kc_94 = true := by decide +kernel
theorem kt_101 : ck_me x_sup [(94, kc_94)] [] [] 17 101 kc_101 = true := by decide +kernel
theorem kt_95 : ck_me x_sup [(96, kc_96), (97, kc_97), (98, kc_98), (99, kc_99), (100, kc_100), (101, kc_101)] [] [(95, 5, [(0, 1, 0, 0, 400)], 0, [], (0, 1, 0), true), (95, 66, [(0, 2, 0, 0, 400)], 0, [], (0, 2, 0), true), (95, 117, [(0, 2, 0, 0, 400)], 0, [], (0, 2, 0), true)] 70 95 kc_95 = true := by decide +kernel
theorem kt_83 : ck_me x_sup [(95, kc_95)] [84] [] 29 83 kc_83 = true := by decide +kernel
theorem kt_82 : ck_me x_sup [(95, kc_95)] [83, 84] [] 72 82 kc_82 = true := by decide +kernel
theorem kt_92 : ck_me x_sup [] [] [] 21 92 kc_92 = true := by decide +kernel
theorem kt_86 : ck_me x_sup [(92, kc_92)] [84] [] 27 86 kc_86 = true := by decide +kernel
theorem kt_93 : ck_me x_sup [] [] [] 21 93 kc_93 = true := by decide +kernel
theorem kt_87 : ck_me x_sup [(93, kc_93)] [84] [] 34 87 kc_87 = true := by decide +kernel
theorem kt_91 : ck_me x_sup [(93, kc_93), (94, kc_94)] [] [(91, 7, [(0, 2, 0, (-1), 63)], 1752346656768, [], (0, 2, 0), false)] 41 91 kc_91 = true := by decide +kernel
theorem kt_89 : ck_me x_sup [(91, kc_91), (92, kc_92)] [] [] 9 89 kc_89 = true := by decide +kernel
theorem kt_90 : ck_me x_sup [(91, kc_91)] [] [] 27 90 kc_90 = true := by decide +kernel
theorem kt_88 : ck_me x_sup [(89, kc_89), (90, kc_90), (91, kc_91), (94, kc_94)] [84] [] 53 88 kc_88 = true := by decide +kernel
theorem kt_85 : ck_me x_sup [(86, kc_86), (87, kc_87), (88, kc_88), (95, kc_95)] [] [(85, 24, [(0, 1, 0, 0, 6), (0, 2, 0, 0, 401)], 8778644717568, [], (0, 2, 0), true)] 64 85 kc_85 = true := by decide +kernel
theorem kt_103 : ck_me x_sup [(1, kc_1)] [] [] 21 103 kc_103 = true := by decide +kernel
theorem kt_104 : ck_me x_sup [(45, kc_45), (56, kc_56)] [135] [] 25 104 kc_104 = true := by decide +kernel
theorem kt_105 : ck_me x_sup [(45, kc_45)] [135] [] 38 105 kc_105 = true := by decide +kernel
