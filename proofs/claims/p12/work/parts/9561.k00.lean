theorem kt_1 : ck_me x_sup [] [] [(1, 2, [(0, 2, 0, 0, 6)], 4194304, [], (0, 2, 0), true)] 21 1 kc_1 = true := by decide +kernel
theorem kt_2 : ck_me x_sup [] [] [(2, 4, [(0, 1, 0, (-2147483648), 2147483647), (0, 2, 0, 0, 6)], 0, [], (0, 2, 0), true)] 25 2 kc_2 = true := by decide +kernel
theorem kt_3 : ck_me x_sup [] [] [(3, 4, [(0, 2, 0, (-2147483648), 2147483647), (0, 3, 0, 0, 18), (2, 4, 0, 0, 0)], 0, [], (0, 3, 0), true)] 35 3 kc_3 = true := by decide +kernel
theorem kt_4 : ck_me x_sup [] [] [(4, 4, [(0, 2, 0, (-2147483648), 2147483647), (0, 3, 0, 0, 6)], 0, [], (0, 3, 0), true)] 26 4 kc_4 = true := by decide +kernel
theorem kt_10 : ck_me x_sup [] [] [] 50 10 kc_10 = true := by decide +kernel
theorem kt_11 : ck_me x_sup [] [] [(11, 37, [(0, 3, 0, 0, 4), (2, 4, 0, 0, 0), (3, 42, 10, 1, 5)], 516508834063867445248, [((1, 42, 10), (0, 3, 0), 1)], (0, 3, 0), true)] 79 11 kc_11 = true := by decide +kernel
theorem kt_9 : ck_me x_sup [(10, kc_10), (11, kc_11)] [] [] 57 9 kc_9 = true := by decide +kernel
theorem kt_12 : ck_me x_sup [] [] [(12, 2, [(0, 3, 0, 0, 5)], 295147905179352825856, [], (0, 3, 0), true)] 25 12 kc_12 = true := by decide +kernel
theorem kt_13 : ck_me x_sup [] [] [(13, 2, [(0, 2, 0, 0, 18)], 9223372036854775808, [], (0, 2, 0), true)] 25 13 kc_13 = true := by decide +kernel
theorem kt_14 : ck_me x_sup [] [135] [] 32 14 kc_14 = true := by decide +kernel
theorem kt_15 : ck_me x_sup [] [] [] 33 15 kc_15 = true := by decide +kernel
theorem kt_16 : ck_me x_sup [(15, kc_15)] [] [(16, 2, [(0, 2, 0, 0, 6)], 69175290276410818560, [], (0, 2, 0), true)] 30 16 kc_16 = true := by decide +kernel
theorem kt_17 : ck_me x_sup [] [] [(17, 9, [(0, 2, 0, 0, 7), (0, 3, 0, 1, 5)], 0, [], (0, 3, 0), true)] 28 17 kc_17 = true := by decide +kernel
theorem kt_18 : ck_me x_sup [] [] [(18, 4, [(0, 2, 0, (-2147483648), 2147483647), (0, 3, 0, 0, 18)], 0, [], (0, 3, 0), true)] 40 18 kc_18 = true := by decide +kernel
theorem kt_19 : ck_me x_sup [] [20] [(19, 15, [(0, 3, 0, 1, 5110), (0, 4, 0, 1, 5)], 0, [], (0, 4, 0), true), (19, 46, [(0, 3, 0, 1, 5110), (0, 4, 0, 0, 3)], 0, [], (0, 4, 0), true), (19, 80, [(0, 3, 0, 1, 5110), (0, 4, 0, 0, 18)], 0, [], (0, 4, 0), true), (19, 126, [(0, 3, 0, 1, 5110), (0, 4, 0, 0, 16), (2, 5, 0, 0, 0)], 0, [], (0, 4, 0), true)] 69 19 kc_19 = true := by decide +kernel
theorem kt_22 : ck_me x_sup [] [] [] 45 22 kc_22 = true := by decide +kernel
theorem kt_24 : ck_me x_sup [] [] [(24, 4, [(0, 1, 0, (-2147483648), 2147483647), (0, 2, 0, 0, 60), (2, 3, 0, 0, 0)], 0, [], (0, 2, 0), true), (24, 14, [(0, 1, 0, (-2147483648), 2147483647), (0, 3, 0, 0, 12)], 0, [], (0, 3, 0), true)] 36 24 kc_24 = true := by decide +kernel
theorem kt_23 : ck_me x_sup [(24, kc_24)] [] [(23, 15, [(0, 4, 0, (-2147483648), 2147483647), (0, 5, 0, (-2147483648), 2147483647), (0, 6, 0, 0, 12), (2, 7, 0, 0, 0)], 0, [], (0, 6, 0), true)] 48 23 kc_23 = true := by decide +kernel
theorem kt_29 : ck_me x_sup [] [] [] 22 29 kc_29 = true := by decide +kernel
theorem kt_27 : ck_me x_sup [(9, kc_9), (29, kc_29)] [] [] 20 27 kc_27 = true := by decide +kernel
