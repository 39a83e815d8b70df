theorem kt_28 : ck_me x_sup [(9, kc_9), (29, kc_29)] [] [] 22 28 kc_28 = true := by decide +kernel
theorem kt_30 : ck_me x_sup [] [] [] 19 30 kc_30 = true := by decide +kernel
theorem kt_31 : ck_me x_sup [] [] [] 19 31 kc_31 = true := by decide +kernel
theorem kt_32 : ck_me x_sup [] [] [] 12 32 kc_32 = true := by decide +kernel
theorem kt_33 : ck_me x_sup [] [] [] 15 33 kc_33 = true := by decide +kernel
theorem kt_42 : ck_me x_sup [] [] [] 8 42 kc_42 = true := by decide +kernel
theorem kt_43 : ck_me x_sup [] [] [] 10 43 kc_43 = true := by decide +kernel
theorem kt_41 : ck_me x_sup [(42, kc_42), (43, kc_43)] [] [(41, 41, [(0, 4, 0, 0, 64), (0, 5, 0, 0, 400), (2, 6, 0, 0, 0)], 4503599627370496, [], (0, 5, 0), true)] 66 41 kc_41 = true := by decide +kernel
theorem kt_37 : ck_me x_sup [(41, kc_41)] [] [(37, 12, [(0, 3, 0, 0, 16), (2, 4, 0, 0, 0)], 6913729115455488, [], (0, 3, 0), true)] 48 37 kc_37 = true := by decide +kernel
theorem kt_38 : ck_me x_sup [(41, kc_41)] [] [(38, 3, [(0, 5, 0, 0, 16), (2, 6, 0, 0, 0)], 6755399441055744, [], (0, 5, 0), true)] 33 38 kc_38 = true := by decide +kernel
theorem kt_39 : ck_me x_sup [(41, kc_41)] [] [(39, 2, [(0, 3, 0, 0, 16), (2, 4, 0, 0, 0)], 6755399441055744, [], (0, 3, 0), true)] 37 39 kc_39 = true := by decide +kernel
theorem kt_57 : ck_me x_sup [] [] [(57, 2, [(0, 2, 0, 0, 20)], 0, [], (0, 2, 0), true)] 17 57 kc_57 = true := by decide +kernel
theorem kt_58 : ck_me x_sup [(57, kc_57)] [] [] 14 58 kc_58 = true := by decide +kernel
theorem kt_36 : ck_me x_sup [(17, kc_17), (18, kc_18), (37, kc_37), (38, kc_38), (39, kc_39), (58, kc_58)] [] [] 114 36 kc_36 = true := by decide +kernel
theorem kt_40 : ck_me x_sup [(19, kc_19)] [] [] 58 40 kc_40 = true := by decide +kernel
theorem kt_34 : ck_me x_sup [(36, kc_36), (40, kc_40)] [] [(34, 5, [(0, 2, 0, 0, 5000)], 8998403161718784, [], (0, 2, 0), true)] 29 34 kc_34 = true := by decide +kernel
theorem kt_35 : ck_me x_sup [(17, kc_17), (34, kc_34), (36, kc_36), (37, kc_37)] [] [] 35 35 kc_35 = true := by decide +kernel
theorem kt_45 : ck_me x_sup [] [230] [(230, 5, [(0, 2, 0, 0, 60)], 5312662293228350865408, [], (0, 2, 0), true)] 34 45 kc_45 = true := by decide +kernel
theorem kt_47 : ck_me x_sup [(27, kc_27), (33, kc_33), (34, kc_34)] [] [] 28 47 kc_47 = true := by decide +kernel
theorem kt_50 : ck_me x_sup [(13, kc_13), (27, kc_27), (33, kc_33), (34, kc_34)] [] [] 21 50 kc_50 = true := by decide +kernel
