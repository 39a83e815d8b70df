/-! A NEW BOOK -/
section PC10
variable {lL : Nat} {h : mq_H} {Q : Option Value → mq_H → Prop}
theorem c_fillR {b n : Nat} {x : Int32} (hn : n < 2 ^ 31) (h100 : 100 ≤ b) (sb : mq_sh h b = .inr (0, n)) (hq : ∀ h', mq_mod b (b + 1) 0 0 h h' → mq_sh h' = mq_sh h → mq_R h' = mq_R h → mq_N h' = mq_N h → (∀ j, j < n → mq_I h' b j = x) → Q none h') : mq_Call mq_G (mq_tT lL) 230 [.ref b, .int x] h Q := by
  have tn := tT_none (L := lL) h100
  have key : ∀ (m k : Nat) (h' : mq_H), k + m = n → mq_mod b (b + 1) 0 0 h h' → mq_sh h' = mq_sh h → mq_R h' = mq_R h → mq_N h' = mq_N h → (∀ j, j < k → mq_I h' b j = x) → mq_At mq_G (mq_tT lL) 230 5 [some (.ref b), some (.int x), some (.int (nI k)), some (.int (nI n))] [] h' Q := by
    intro m
    induction m with
    | zero =>
      intro k h' hk hm hs hr hN hj
      apply mq_go 40 []
      refine bq_t (by rw [show k = n by omega]; exact Int32.le_refl _) ?_
      exact hq h' hm hs hr hN (fun j hj' => hj j (by omega))
    | succ m ih =>
      intro k h' hk hm hs hr hN hj
      apply mq_go 40 [5]
      refine bq_f (nI_ge (by omega) (by omega)) ?_
      refine gq_i (by rw [hs, sb]; simp [mq_gA, tn]; exact inb_nI (by omega) (by omega)) ?_
      rw [clamp_nI (by omega)]
      apply Eq.mp (congrArg (fun z => mq_At mq_G (mq_tT lL) 230 5 [some (.ref b), some (.int x), some (.int z), some (.int (nI n))] [] (mq_setI h' b k x) Q) (nI_1 k).symm)
      refine ih (k + 1) _ (by omega) (hm.sI (Or.inl ⟨by omega, by omega⟩) k x) hs hr hN (fun j hj' => ?_)
      rw [mq_I_setI, if_pos rfl]
      by_cases e : j = k
      · rw [if_pos e]
      · rw [if_neg e]; exact hj j (by omega)
  apply mq_enter 40 [5]
  refine gq_i (by rw [sb]; rfl) ?_
  show mq_At mq_G (mq_tT lL) 230 5 [some (.ref b), some (.int x), some (.int (nI 0)), some (.int (mq_al (mq_sh h b)))] [] h Q
  rw [sb]
  exact key n 0 h (by omega) (mq_mod.rf 0 0 h) rfl rfl rfl (fun j hj => by omega)
theorem nw_ex {h H : mq_H} {a k z N : Nat} {s : mq_S} (hN : mq_N h = N) (ha : a < N) (e : H = mq_setR (mq_new h s z) a k (some (mq_N h))) : mq_N H = N + 1 ∧ mq_sh H N = s ∧ (∀ b, b < N → mq_sh H b = mq_sh h b) ∧ mq_R H a k = some N ∧ (∀ j, j ≠ k → mq_R H a j = mq_R h a j) ∧ mq_mod a (a + 1) 1 z h H ∧ mq_I H a = mq_I h a := by
  subst e
  subst hN
  refine ⟨rfl, ?_, fun b hb => ?_, ?_, fun j hj => ?_, ?_, ?_⟩
  · rw [mq_sh_setR, mq_sh_new, if_pos rfl]
  · rw [mq_sh_setR, mq_sh_new, if_neg (by omega)]
  · rw [mq_R_setR, if_pos rfl, if_pos rfl]
  · rw [mq_R_setR, if_pos rfl, if_neg hj, mq_R_new, if_neg (by omega)]
  · exact (mq_mod.nw (mq_mod.rf 0 0 h) s (by decide) (by omega)).sR (Or.inl ⟨by omega, by omega⟩) _ _
  · funext j
    rw [mq_I_setR, mq_I_new, if_neg (by omega)]
def ok_A (h' : mq_H) (a : Nat) : Prop := mq_sh h' a = .inl 0 ∧ mq_R h' a 0 = some (a + 1) ∧ mq_sh h' (a + 1) = .inr (0, 6) ∧ mq_R h' a 1 = some (a + 2) ∧ mq_sh h' (a + 2) = .inr (0, 6) ∧ mq_R h' a 2 = some (a + 3) ∧ mq_sh h' (a + 3) = .inr (0, 6) ∧ mq_R h' a 3 = some (a + 4) ∧ mq_sh h' (a + 4) = .inr (0, 18)
theorem c_mkA0 {a : Nat} (sa : mq_sh h a = .inl 0) (h100 : 100 ≤ a) (hN : mq_N h = a + 1) (K : ∀ h', mq_N h' = a + 5 → mq_mod a (a + 1) 4 36 h h' → mq_I h' a = mq_I h a → ok_A h' a → mq_At mq_G (mq_tT lL) 0 36 [some (.ref a)] [] h' Q) : mq_Call mq_G (mq_tT lL) 0 [.ref a] h Q := by
  have tn := tT_none (L := lL) h100
  apply mq_enter 60 [12]
  refine gq_i rfl ?_
  refine gq_i (by rw [mq_sh_new, if_neg (by omega), sa, tn]; rfl) ?_
  obtain ⟨h1, e1⟩ : ∃ H, H = mq_setR (mq_new h (.inr (0, 6)) 6) a 0 (some (mq_N h)) := ⟨_, rfl⟩
  show mq_At mq_G (mq_tT lL) 0 12 [some (.ref a)] [] (mq_setR (mq_new h (.inr (0, 6)) 6) a 0 (some (mq_N h))) Q
  rw [← e1]
  obtain ⟨hN1, S1, A1, R1, B1, M1, I1⟩ := nw_ex hN (by omega) e1
  have sa1 : mq_sh h1 a = .inl 0 := by rw [A1 a (by omega)]; exact sa
  apply mq_go 60 [20]
  refine gq_i rfl ?_
  refine gq_i (by rw [mq_sh_new, if_neg (by omega), sa1, tn]; rfl) ?_
  obtain ⟨h2, e2⟩ : ∃ H, H = mq_setR (mq_new h1 (.inr (0, 6)) 6) a 1 (some (mq_N h1)) := ⟨_, rfl⟩
  show mq_At mq_G (mq_tT lL) 0 20 [some (.ref a)] [] (mq_setR (mq_new h1 (.inr (0, 6)) 6) a 1 (some (mq_N h1))) Q
  rw [← e2]
  obtain ⟨hN2, S2, A2, R2, B2, M2, I2⟩ := nw_ex hN1 (by omega) e2
  have sa2 : mq_sh h2 a = .inl 0 := by rw [A2 a (by omega)]; exact sa1
  apply mq_go 60 [28]
  refine gq_i rfl ?_
  refine gq_i (by rw [mq_sh_new, if_neg (by omega), sa2, tn]; rfl) ?_
  obtain ⟨h3, e3⟩ : ∃ H, H = mq_setR (mq_new h2 (.inr (0, 6)) 6) a 2 (some (mq_N h2)) := ⟨_, rfl⟩
  show mq_At mq_G (mq_tT lL) 0 28 [some (.ref a)] [] (mq_setR (mq_new h2 (.inr (0, 6)) 6) a 2 (some (mq_N h2))) Q
  rw [← e3]
  obtain ⟨hN3, S3, A3, R3, B3, M3, I3⟩ := nw_ex hN2 (by omega) e3
  have sa3 : mq_sh h3 a = .inl 0 := by rw [A3 a (by omega)]; exact sa2
  apply mq_go 60 [36]
  refine gq_i rfl ?_
  refine gq_i (by rw [mq_sh_new, if_neg (by omega), sa3, tn]; rfl) ?_
  obtain ⟨h4, e4⟩ : ∃ H, H = mq_setR (mq_new h3 (.inr (0, 18)) 18) a 3 (some (mq_N h3)) := ⟨_, rfl⟩
  show mq_At mq_G (mq_tT lL) 0 36 [some (.ref a)] [] (mq_setR (mq_new h3 (.inr (0, 18)) 18) a 3 (some (mq_N h3))) Q
  rw [← e4]
  obtain ⟨hN4, S4, A4, R4, B4, M4, I4⟩ := nw_ex hN3 (by omega) e4
  have sa4 : mq_sh h4 a = .inl 0 := by rw [A4 a (by omega)]; exact sa3
  exact K h4 hN4 (mq_mod.tr (n := 4) (z := 36) (mq_mod.tr (n := 3) (z := 18) (mq_mod.tr (n := 2) (z := 12) M1 M2 (by decide) (by decide)) M3 (by decide) (by decide)) M4 (by decide) (by decide)) (I4.trans (I3.trans (I2.trans I1))) ⟨sa4, (by rw [B4 _ (by decide), B3 _ (by decide), B2 _ (by decide)]; exact R1), (by rw [A4 _ (by omega), A3 _ (by omega), A2 _ (by omega)]; exact S1), (by rw [B4 _ (by decide), B3 _ (by decide)]; exact R2), (by rw [A4 _ (by omega), A3 _ (by omega)]; exact S2), (by rw [B4 _ (by decide)]; exact R3), (by rw [A4 _ (by omega)]; exact S3), (by exact R4), (by exact S4)⟩
def ok_C (h' : mq_H) (a : Nat) : Prop := mq_sh h' a = .inl 3 ∧ mq_R h' a 1 = some (a + 1) ∧ mq_sh h' (a + 1) = .inr (0, 60) ∧ mq_R h' a 2 = some (a + 2) ∧ mq_sh h' (a + 2) = .inr (0, 60) ∧ mq_R h' a 3 = some (a + 3) ∧ mq_sh h' (a + 3) = .inr (0, 60) ∧ mq_R h' a 4 = some (a + 4) ∧ mq_sh h' (a + 4) = .inr (0, 60) ∧ mq_R h' a 5 = some (a + 5) ∧ mq_sh h' (a + 5) = .inr (0, 60) ∧ mq_R h' a 6 = some (a + 6) ∧ mq_sh h' (a + 6) = .inr (0, 60) ∧ mq_R h' a 7 = some (a + 7) ∧ mq_sh h' (a + 7) = .inr (2, 60) ∧ mq_R h' a 8 = some (a + 8) ∧ mq_sh h' (a + 8) = .inr (0, 60) ∧ mq_R h' a 9 = some (a + 9) ∧ mq_sh h' (a + 9) = .inr (0, 720) ∧ mq_R h' a 10 = some (a + 10) ∧ mq_sh h' (a + 10) = .inr (0, 720) ∧ mq_R h' a 11 = some (a + 11) ∧ mq_sh h' (a + 11) = .inr (0, 720) ∧ mq_R h' a 12 = some (a + 12) ∧ mq_sh h' (a + 12) = .inr (0, 720)
theorem c_mkC0 {a : Nat} (sa : mq_sh h a = .inl 3) (h100 : 100 ≤ a) (hN : mq_N h = a + 1) (K : ∀ h', mq_N h' = a + 13 → mq_mod a (a + 1) 12 3360 h h' → mq_I h' a = mq_I h a → ok_C h' a → mq_At mq_G (mq_tT lL) 21 104 [some (.ref a)] [] h' Q) : mq_Call mq_G (mq_tT lL) 21 [.ref a] h Q := by
  have tn := tT_none (L := lL) h100
  apply mq_enter 60 [12]
  refine gq_i rfl ?_
  refine gq_i (by rw [mq_sh_new, if_neg (by omega), sa, tn]; rfl) ?_
  obtain ⟨h1, e1⟩ : ∃ H, H = mq_setR (mq_new h (.inr (0, 60)) 60) a 1 (some (mq_N h)) := ⟨_, rfl⟩
  show mq_At mq_G (mq_tT lL) 21 12 [some (.ref a)] [] (mq_setR (mq_new h (.inr (0, 60)) 60) a 1 (some (mq_N h))) Q
  rw [← e1]
  obtain ⟨hN1, S1, A1, R1, B1, M1, I1⟩ := nw_ex hN (by omega) e1
  have sa1 : mq_sh h1 a = .inl 3 := by rw [A1 a (by omega)]; exact sa
  apply mq_go 60 [20]
  refine gq_i rfl ?_
  refine gq_i (by rw [mq_sh_new, if_neg (by omega), sa1, tn]; rfl) ?_
  obtain ⟨h2, e2⟩ : ∃ H, H = mq_setR (mq_new h1 (.inr (0, 60)) 60) a 2 (some (mq_N h1)) := ⟨_, rfl⟩
  show mq_At mq_G (mq_tT lL) 21 20 [some (.ref a)] [] (mq_setR (mq_new h1 (.inr (0, 60)) 60) a 2 (some (mq_N h1))) Q
  rw [← e2]
  obtain ⟨hN2, S2, A2, R2, B2, M2, I2⟩ := nw_ex hN1 (by omega) e2
  have sa2 : mq_sh h2 a = .inl 3 := by rw [A2 a (by omega)]; exact sa1
  apply mq_go 60 [28]
  refine gq_i rfl ?_
  refine gq_i (by rw [mq_sh_new, if_neg (by omega), sa2, tn]; rfl) ?_
  obtain ⟨h3, e3⟩ : ∃ H, H = mq_setR (mq_new h2 (.inr (0, 60)) 60) a 3 (some (mq_N h2)) := ⟨_, rfl⟩
  show mq_At mq_G (mq_tT lL) 21 28 [some (.ref a)] [] (mq_setR (mq_new h2 (.inr (0, 60)) 60) a 3 (some (mq_N h2))) Q
  rw [← e3]
  obtain ⟨hN3, S3, A3, R3, B3, M3, I3⟩ := nw_ex hN2 (by omega) e3
  have sa3 : mq_sh h3 a = .inl 3 := by rw [A3 a (by omega)]; exact sa2
  apply mq_go 60 [36]
  refine gq_i rfl ?_
  refine gq_i (by rw [mq_sh_new, if_neg (by omega), sa3, tn]; rfl) ?_
  obtain ⟨h4, e4⟩ : ∃ H, H = mq_setR (mq_new h3 (.inr (0, 60)) 60) a 4 (some (mq_N h3)) := ⟨_, rfl⟩
  show mq_At mq_G (mq_tT lL) 21 36 [some (.ref a)] [] (mq_setR (mq_new h3 (.inr (0, 60)) 60) a 4 (some (mq_N h3))) Q
  rw [← e4]
  obtain ⟨hN4, S4, A4, R4, B4, M4, I4⟩ := nw_ex hN3 (by omega) e4
  have sa4 : mq_sh h4 a = .inl 3 := by rw [A4 a (by omega)]; exact sa3
  apply mq_go 60 [44]
  refine gq_i rfl ?_
  refine gq_i (by rw [mq_sh_new, if_neg (by omega), sa4, tn]; rfl) ?_
  obtain ⟨h5, e5⟩ : ∃ H, H = mq_setR (mq_new h4 (.inr (0, 60)) 60) a 5 (some (mq_N h4)) := ⟨_, rfl⟩
  show mq_At mq_G (mq_tT lL) 21 44 [some (.ref a)] [] (mq_setR (mq_new h4 (.inr (0, 60)) 60) a 5 (some (mq_N h4))) Q
  rw [← e5]
  obtain ⟨hN5, S5, A5, R5, B5, M5, I5⟩ := nw_ex hN4 (by omega) e5
  have sa5 : mq_sh h5 a = .inl 3 := by rw [A5 a (by omega)]; exact sa4
  apply mq_go 60 [52]
  refine gq_i rfl ?_
  refine gq_i (by rw [mq_sh_new, if_neg (by omega), sa5, tn]; rfl) ?_
  obtain ⟨h6, e6⟩ : ∃ H, H = mq_setR (mq_new h5 (.inr (0, 60)) 60) a 6 (some (mq_N h5)) := ⟨_, rfl⟩
  show mq_At mq_G (mq_tT lL) 21 52 [some (.ref a)] [] (mq_setR (mq_new h5 (.inr (0, 60)) 60) a 6 (some (mq_N h5))) Q
  rw [← e6]
  obtain ⟨hN6, S6, A6, R6, B6, M6, I6⟩ := nw_ex hN5 (by omega) e6
  have sa6 : mq_sh h6 a = .inl 3 := by rw [A6 a (by omega)]; exact sa5
  apply mq_go 60 [60]
  refine gq_i rfl ?_
  refine gq_i (by rw [mq_sh_new, if_neg (by omega), sa6, tn]; rfl) ?_
  obtain ⟨h7, e7⟩ : ∃ H, H = mq_setR (mq_new h6 (.inr (2, 60)) 60) a 7 (some (mq_N h6)) := ⟨_, rfl⟩
  show mq_At mq_G (mq_tT lL) 21 60 [some (.ref a)] [] (mq_setR (mq_new h6 (.inr (2, 60)) 60) a 7 (some (mq_N h6))) Q
  rw [← e7]
  obtain ⟨hN7, S7, A7, R7, B7, M7, I7⟩ := nw_ex hN6 (by omega) e7
  have sa7 : mq_sh h7 a = .inl 3 := by rw [A7 a (by omega)]; exact sa6
  apply mq_go 60 [68]
  refine gq_i rfl ?_
  refine gq_i (by rw [mq_sh_new, if_neg (by omega), sa7, tn]; rfl) ?_
  obtain ⟨h8, e8⟩ : ∃ H, H = mq_setR (mq_new h7 (.inr (0, 60)) 60) a 8 (some (mq_N h7)) := ⟨_, rfl⟩
  show mq_At mq_G (mq_tT lL) 21 68 [some (.ref a)] [] (mq_setR (mq_new h7 (.inr (0, 60)) 60) a 8 (some (mq_N h7))) Q
  rw [← e8]
  obtain ⟨hN8, S8, A8, R8, B8, M8, I8⟩ := nw_ex hN7 (by omega) e8
  have sa8 : mq_sh h8 a = .inl 3 := by rw [A8 a (by omega)]; exact sa7
  apply mq_go 60 [77]
  refine gq_i rfl ?_
  refine gq_i (by rw [mq_sh_new, if_neg (by omega), sa8, tn]; rfl) ?_
  obtain ⟨h9, e9⟩ : ∃ H, H = mq_setR (mq_new h8 (.inr (0, 720)) 720) a 9 (some (mq_N h8)) := ⟨_, rfl⟩
  show mq_At mq_G (mq_tT lL) 21 77 [some (.ref a)] [] (mq_setR (mq_new h8 (.inr (0, 720)) 720) a 9 (some (mq_N h8))) Q
  rw [← e9]
  obtain ⟨hN9, S9, A9, R9, B9, M9, I9⟩ := nw_ex hN8 (by omega) e9
  have sa9 : mq_sh h9 a = .inl 3 := by rw [A9 a (by omega)]; exact sa8
  apply mq_go 60 [86]
  refine gq_i rfl ?_
  refine gq_i (by rw [mq_sh_new, if_neg (by omega), sa9, tn]; rfl) ?_
  obtain ⟨h10, e10⟩ : ∃ H, H = mq_setR (mq_new h9 (.inr (0, 720)) 720) a 10 (some (mq_N h9)) := ⟨_, rfl⟩
  show mq_At mq_G (mq_tT lL) 21 86 [some (.ref a)] [] (mq_setR (mq_new h9 (.inr (0, 720)) 720) a 10 (some (mq_N h9))) Q
  rw [← e10]
  obtain ⟨hN10, S10, A10, R10, B10, M10, I10⟩ := nw_ex hN9 (by omega) e10
  have sa10 : mq_sh h10 a = .inl 3 := by rw [A10 a (by omega)]; exact sa9
  apply mq_go 60 [95]
  refine gq_i rfl ?_
  refine gq_i (by rw [mq_sh_new, if_neg (by omega), sa10, tn]; rfl) ?_
  obtain ⟨h11, e11⟩ : ∃ H, H = mq_setR (mq_new h10 (.inr (0, 720)) 720) a 11 (some (mq_N h10)) := ⟨_, rfl⟩
  show mq_At mq_G (mq_tT lL) 21 95 [some (.ref a)] [] (mq_setR (mq_new h10 (.inr (0, 720)) 720) a 11 (some (mq_N h10))) Q
  rw [← e11]
  obtain ⟨hN11, S11, A11, R11, B11, M11, I11⟩ := nw_ex hN10 (by omega) e11
  have sa11 : mq_sh h11 a = .inl 3 := by rw [A11 a (by omega)]; exact sa10
  apply mq_go 60 [104]
  refine gq_i rfl ?_
  refine gq_i (by rw [mq_sh_new, if_neg (by omega), sa11, tn]; rfl) ?_
  obtain ⟨h12, e12⟩ : ∃ H, H = mq_setR (mq_new h11 (.inr (0, 720)) 720) a 12 (some (mq_N h11)) := ⟨_, rfl⟩
  show mq_At mq_G (mq_tT lL) 21 104 [some (.ref a)] [] (mq_setR (mq_new h11 (.inr (0, 720)) 720) a 12 (some (mq_N h11))) Q
  rw [← e12]
  obtain ⟨hN12, S12, A12, R12, B12, M12, I12⟩ := nw_ex hN11 (by omega) e12
  have sa12 : mq_sh h12 a = .inl 3 := by rw [A12 a (by omega)]; exact sa11
  exact K h12 hN12 (mq_mod.tr (n := 12) (z := 3360) (mq_mod.tr (n := 11) (z := 2640) (mq_mod.tr (n := 10) (z := 1920) (mq_mod.tr (n := 9) (z := 1200) (mq_mod.tr (n := 8) (z := 480) (mq_mod.tr (n := 7) (z := 420) (mq_mod.tr (n := 6) (z := 360) (mq_mod.tr (n := 5) (z := 300) (mq_mod.tr (n := 4) (z := 240) (mq_mod.tr (n := 3) (z := 180) (mq_mod.tr (n := 2) (z := 120) M1 M2 (by decide) (by decide)) M3 (by decide) (by decide)) M4 (by decide) (by decide)) M5 (by decide) (by decide)) M6 (by decide) (by decide)) M7 (by decide) (by decide)) M8 (by decide) (by decide)) M9 (by decide) (by decide)) M10 (by decide) (by decide)) M11 (by decide) (by decide)) M12 (by decide) (by decide)) (I12.trans (I11.trans (I10.trans (I9.trans (I8.trans (I7.trans (I6.trans (I5.trans (I4.trans (I3.trans (I2.trans I1))))))))))) ⟨sa12, (by rw [B12 _ (by decide), B11 _ (by decide), B10 _ (by decide), B9 _ (by decide), B8 _ (by decide), B7 _ (by decide), B6 _ (by decide), B5 _ (by decide), B4 _ (by decide), B3 _ (by decide), B2 _ (by decide)]; exact R1), (by rw [A12 _ (by omega), A11 _ (by omega), A10 _ (by omega), A9 _ (by omega), A8 _ (by omega), A7 _ (by omega), A6 _ (by omega), A5 _ (by omega), A4 _ (by omega), A3 _ (by omega), A2 _ (by omega)]; exact S1), (by rw [B12 _ (by decide), B11 _ (by decide), B10 _ (by decide), B9 _ (by decide), B8 _ (by decide), B7 _ (by decide), B6 _ (by decide), B5 _ (by decide), B4 _ (by decide), B3 _ (by decide)]; exact R2), (by rw [A12 _ (by omega), A11 _ (by omega), A10 _ (by omega), A9 _ (by omega), A8 _ (by omega), A7 _ (by omega), A6 _ (by omega), A5 _ (by omega), A4 _ (by omega), A3 _ (by omega)]; exact S2), (by rw [B12 _ (by decide), B11 _ (by decide), B10 _ (by decide), B9 _ (by decide), B8 _ (by decide), B7 _ (by decide), B6 _ (by decide), B5 _ (by decide), B4 _ (by decide)]; exact R3), (by rw [A12 _ (by omega), A11 _ (by omega), A10 _ (by omega), A9 _ (by omega), A8 _ (by omega), A7 _ (by omega), A6 _ (by omega), A5 _ (by omega), A4 _ (by omega)]; exact S3), (by rw [B12 _ (by decide), B11 _ (by decide), B10 _ (by decide), B9 _ (by decide), B8 _ (by decide), B7 _ (by decide), B6 _ (by decide), B5 _ (by decide)]; exact R4), (by rw [A12 _ (by omega), A11 _ (by omega), A10 _ (by omega), A9 _ (by omega), A8 _ (by omega), A7 _ (by omega), A6 _ (by omega), A5 _ (by omega)]; exact S4), (by rw [B12 _ (by decide), B11 _ (by decide), B10 _ (by decide), B9 _ (by decide), B8 _ (by decide), B7 _ (by decide), B6 _ (by decide)]; exact R5), (by rw [A12 _ (by omega), A11 _ (by omega), A10 _ (by omega), A9 _ (by omega), A8 _ (by omega), A7 _ (by omega), A6 _ (by omega)]; exact S5), (by rw [B12 _ (by decide), B11 _ (by decide), B10 _ (by decide), B9 _ (by decide), B8 _ (by decide), B7 _ (by decide)]; exact R6), (by rw [A12 _ (by omega), A11 _ (by omega), A10 _ (by omega), A9 _ (by omega), A8 _ (by omega), A7 _ (by omega)]; exact S6), (by rw [B12 _ (by decide), B11 _ (by decide), B10 _ (by decide), B9 _ (by decide), B8 _ (by decide)]; exact R7), (by rw [A12 _ (by omega), A11 _ (by omega), A10 _ (by omega), A9 _ (by omega), A8 _ (by omega)]; exact S7), (by rw [B12 _ (by decide), B11 _ (by decide), B10 _ (by decide), B9 _ (by decide)]; exact R8), (by rw [A12 _ (by omega), A11 _ (by omega), A10 _ (by omega), A9 _ (by omega)]; exact S8), (by rw [B12 _ (by decide), B11 _ (by decide), B10 _ (by decide)]; exact R9), (by rw [A12 _ (by omega), A11 _ (by omega), A10 _ (by omega)]; exact S9), (by rw [B12 _ (by decide), B11 _ (by decide)]; exact R10), (by rw [A12 _ (by omega), A11 _ (by omega)]; exact S10), (by rw [B12 _ (by decide)]; exact R11), (by rw [A12 _ (by omega)]; exact S11), (by exact R12), (by exact S12)⟩
def ok_P (h' : mq_H) (a : Nat) : Prop := mq_sh h' a = .inl 8 ∧ mq_R h' a 0 = some (a + 1) ∧ mq_sh h' (a + 1) = .inr (0, 20) ∧ mq_R h' a 2 = some (a + 2) ∧ mq_sh h' (a + 2) = .inr (0, 6) ∧ mq_R h' a 3 = some (a + 3) ∧ mq_sh h' (a + 3) = .inr (0, 6) ∧ mq_R h' a 4 = some (a + 4) ∧ mq_sh h' (a + 4) = .inr (0, 24) ∧ mq_R h' a 5 = some (a + 5) ∧ mq_sh h' (a + 5) = .inr (0, 24) ∧ mq_R h' a 6 = some (a + 6) ∧ mq_sh h' (a + 6) = .inr (2, 24) ∧ mq_R h' a 7 = some (a + 7) ∧ mq_sh h' (a + 7) = .inr (4, 8)
theorem c_mkP0 {a : Nat} (sa : mq_sh h a = .inl 8) (h100 : 100 ≤ a) (hN : mq_N h = a + 1) (K : ∀ h', mq_N h' = a + 8 → mq_mod a (a + 1) 7 112 h h' → mq_I h' a = mq_I h a → ok_P h' a → mq_At mq_G (mq_tT lL) 55 61 [some (.ref a), none, none] [] h' Q) : mq_Call mq_G (mq_tT lL) 55 [.ref a] h Q := by
  have tn := tT_none (L := lL) h100
  apply mq_enter 60 [12]
  refine gq_i rfl ?_
  refine gq_i (by rw [mq_sh_new, if_neg (by omega), sa, tn]; rfl) ?_
  obtain ⟨h1, e1⟩ : ∃ H, H = mq_setR (mq_new h (.inr (0, 20)) 20) a 0 (some (mq_N h)) := ⟨_, rfl⟩
  show mq_At mq_G (mq_tT lL) 55 12 [some (.ref a), none, none] [] (mq_setR (mq_new h (.inr (0, 20)) 20) a 0 (some (mq_N h))) Q
  rw [← e1]
  obtain ⟨hN1, S1, A1, R1, B1, M1, I1⟩ := nw_ex hN (by omega) e1
  have sa1 : mq_sh h1 a = .inl 8 := by rw [A1 a (by omega)]; exact sa
  apply mq_go 60 [20]
  refine gq_i rfl ?_
  refine gq_i (by rw [mq_sh_new, if_neg (by omega), sa1, tn]; rfl) ?_
  obtain ⟨h2, e2⟩ : ∃ H, H = mq_setR (mq_new h1 (.inr (0, 6)) 6) a 2 (some (mq_N h1)) := ⟨_, rfl⟩
  show mq_At mq_G (mq_tT lL) 55 20 [some (.ref a), none, none] [] (mq_setR (mq_new h1 (.inr (0, 6)) 6) a 2 (some (mq_N h1))) Q
  rw [← e2]
  obtain ⟨hN2, S2, A2, R2, B2, M2, I2⟩ := nw_ex hN1 (by omega) e2
  have sa2 : mq_sh h2 a = .inl 8 := by rw [A2 a (by omega)]; exact sa1
  apply mq_go 60 [28]
  refine gq_i rfl ?_
  refine gq_i (by rw [mq_sh_new, if_neg (by omega), sa2, tn]; rfl) ?_
  obtain ⟨h3, e3⟩ : ∃ H, H = mq_setR (mq_new h2 (.inr (0, 6)) 6) a 3 (some (mq_N h2)) := ⟨_, rfl⟩
  show mq_At mq_G (mq_tT lL) 55 28 [some (.ref a), none, none] [] (mq_setR (mq_new h2 (.inr (0, 6)) 6) a 3 (some (mq_N h2))) Q
  rw [← e3]
  obtain ⟨hN3, S3, A3, R3, B3, M3, I3⟩ := nw_ex hN2 (by omega) e3
  have sa3 : mq_sh h3 a = .inl 8 := by rw [A3 a (by omega)]; exact sa2
  apply mq_go 60 [36]
  refine gq_i rfl ?_
  refine gq_i (by rw [mq_sh_new, if_neg (by omega), sa3, tn]; rfl) ?_
  obtain ⟨h4, e4⟩ : ∃ H, H = mq_setR (mq_new h3 (.inr (0, 24)) 24) a 4 (some (mq_N h3)) := ⟨_, rfl⟩
  show mq_At mq_G (mq_tT lL) 55 36 [some (.ref a), none, none] [] (mq_setR (mq_new h3 (.inr (0, 24)) 24) a 4 (some (mq_N h3))) Q
  rw [← e4]
  obtain ⟨hN4, S4, A4, R4, B4, M4, I4⟩ := nw_ex hN3 (by omega) e4
  have sa4 : mq_sh h4 a = .inl 8 := by rw [A4 a (by omega)]; exact sa3
  apply mq_go 60 [44]
  refine gq_i rfl ?_
  refine gq_i (by rw [mq_sh_new, if_neg (by omega), sa4, tn]; rfl) ?_
  obtain ⟨h5, e5⟩ : ∃ H, H = mq_setR (mq_new h4 (.inr (0, 24)) 24) a 5 (some (mq_N h4)) := ⟨_, rfl⟩
  show mq_At mq_G (mq_tT lL) 55 44 [some (.ref a), none, none] [] (mq_setR (mq_new h4 (.inr (0, 24)) 24) a 5 (some (mq_N h4))) Q
  rw [← e5]
  obtain ⟨hN5, S5, A5, R5, B5, M5, I5⟩ := nw_ex hN4 (by omega) e5
  have sa5 : mq_sh h5 a = .inl 8 := by rw [A5 a (by omega)]; exact sa4
  apply mq_go 60 [52]
  refine gq_i rfl ?_
  refine gq_i (by rw [mq_sh_new, if_neg (by omega), sa5, tn]; rfl) ?_
  obtain ⟨h6, e6⟩ : ∃ H, H = mq_setR (mq_new h5 (.inr (2, 24)) 24) a 6 (some (mq_N h5)) := ⟨_, rfl⟩
  show mq_At mq_G (mq_tT lL) 55 52 [some (.ref a), none, none] [] (mq_setR (mq_new h5 (.inr (2, 24)) 24) a 6 (some (mq_N h5))) Q
  rw [← e6]
  obtain ⟨hN6, S6, A6, R6, B6, M6, I6⟩ := nw_ex hN5 (by omega) e6
  have sa6 : mq_sh h6 a = .inl 8 := by rw [A6 a (by omega)]; exact sa5
  apply mq_go 60 [61]
  refine gq_i rfl ?_
  refine gq_i (by rw [mq_sh_new, if_neg (by omega), sa6, tn]; rfl) ?_
  obtain ⟨h7, e7⟩ : ∃ H, H = mq_setR (mq_new h6 (.inr (4, 8)) 8) a 7 (some (mq_N h6)) := ⟨_, rfl⟩
  show mq_At mq_G (mq_tT lL) 55 61 [some (.ref a), none, none] [] (mq_setR (mq_new h6 (.inr (4, 8)) 8) a 7 (some (mq_N h6))) Q
  rw [← e7]
  obtain ⟨hN7, S7, A7, R7, B7, M7, I7⟩ := nw_ex hN6 (by omega) e7
  have sa7 : mq_sh h7 a = .inl 8 := by rw [A7 a (by omega)]; exact sa6
  exact K h7 hN7 (mq_mod.tr (n := 7) (z := 112) (mq_mod.tr (n := 6) (z := 104) (mq_mod.tr (n := 5) (z := 80) (mq_mod.tr (n := 4) (z := 56) (mq_mod.tr (n := 3) (z := 32) (mq_mod.tr (n := 2) (z := 26) M1 M2 (by decide) (by decide)) M3 (by decide) (by decide)) M4 (by decide) (by decide)) M5 (by decide) (by decide)) M6 (by decide) (by decide)) M7 (by decide) (by decide)) (I7.trans (I6.trans (I5.trans (I4.trans (I3.trans (I2.trans I1)))))) ⟨sa7, (by rw [B7 _ (by decide), B6 _ (by decide), B5 _ (by decide), B4 _ (by decide), B3 _ (by decide), B2 _ (by decide)]; exact R1), (by rw [A7 _ (by omega), A6 _ (by omega), A5 _ (by omega), A4 _ (by omega), A3 _ (by omega), A2 _ (by omega)]; exact S1), (by rw [B7 _ (by decide), B6 _ (by decide), B5 _ (by decide), B4 _ (by decide), B3 _ (by decide)]; exact R2), (by rw [A7 _ (by omega), A6 _ (by omega), A5 _ (by omega), A4 _ (by omega), A3 _ (by omega)]; exact S2), (by rw [B7 _ (by decide), B6 _ (by decide), B5 _ (by decide), B4 _ (by decide)]; exact R3), (by rw [A7 _ (by omega), A6 _ (by omega), A5 _ (by omega), A4 _ (by omega)]; exact S3), (by rw [B7 _ (by decide), B6 _ (by decide), B5 _ (by decide)]; exact R4), (by rw [A7 _ (by omega), A6 _ (by omega), A5 _ (by omega)]; exact S4), (by rw [B7 _ (by decide), B6 _ (by decide)]; exact R5), (by rw [A7 _ (by omega), A6 _ (by omega)]; exact S5), (by rw [B7 _ (by decide)]; exact R6), (by rw [A7 _ (by omega)]; exact S6), (by exact R7), (by exact S7)⟩
-- CTOR END
end PC10
