def kc_83s : ck_T := ([(3, 35, 0, 0), (1, 0, 266, 266), (1, 0, 268, 268)], (1, 0, 2), 16911433728)
theorem kt_83s : ck_me x_sup [(95, kc_95)] [84] [] 29 83 kc_83s = true := by decide +kernel
