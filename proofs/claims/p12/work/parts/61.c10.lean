/-! A BOOK COPIED out of the static one -/
section PC13
variable {lL : Nat} {h : mq_H} {Q : Option Value → mq_H → Prop}
theorem mq_sh_cpI (h : mq_H) (a b sp dp n : Nat) : mq_sh (mq_cpI h a b sp dp n) = mq_sh h := rfl
theorem beq_far {a b : Nat} (h : a < b) : Nat.beq a b = false := by
  cases e : Nat.beq a b with
  | false => rfl
  | true => have := Nat.eq_of_beq_eq_true e; omega
theorem c_cpA {a : Nat} (k : ok_A h a) (h100 : 100 ≤ a) (hq : ∀ h', mq_mod a (a + 5) 0 0 h h' → mq_sh h' = mq_sh h → mq_R h' = mq_R h → Q none h') : mq_Call mq_G (mq_tT lL) 5 [.ref a, .retAddr 30] h Q := by
  have tn := tT_none (L := lL) h100
  obtain ⟨s0, r1, s1, r2, s2, r3, s3, r4, s4⟩ := k
  have b1 := beq_far (show 31 < a + 1 by omega)
  have b2 := beq_far (show 32 < a + 2 by omega)
  have b3 := beq_far (show 33 < a + 3 by omega)
  have b4 := beq_far (show 34 < a + 4 by omega)
  apply mq_enter 60 [15]
  refine gq_i (by rw [s0]; rfl) ?_
  refine oq_s r1 ?_
  refine gq_i (by rw [s1, b1]; rfl) ?_
  obtain ⟨g1, e1⟩ : ∃ H, H = mq_cpI h 31 (a + 1) 0 0 6 := ⟨_, rfl⟩
  show mq_At mq_G (mq_tT lL) 5 15 [some (.ref a), some (.retAddr 30)] [] (mq_cpI h 31 (a + 1) 0 0 6) Q
  rw [← e1]
  have u1 : mq_sh g1 = mq_sh h := by rw [e1]; rfl
  have v1 : mq_R g1 = mq_R h := by rw [e1]; rfl
  have m1 : mq_mod a (a + 5) 0 0 h g1 := by rw [e1]; exact (mq_mod.rf 0 0 _).cI (Or.inl ⟨by omega, by omega⟩) _ _ _ _
  rw [← u1] at s0 s1 s2 s3 s4
  rw [← v1] at r1 r2 r3 r4
  clear e1
  apply mq_go 60 [30]
  refine gq_i (by rw [s0]; rfl) ?_
  refine oq_s r2 ?_
  refine gq_i (by rw [s2, b2]; rfl) ?_
  obtain ⟨g2, e2⟩ : ∃ H, H = mq_cpI g1 32 (a + 2) 0 0 6 := ⟨_, rfl⟩
  show mq_At mq_G (mq_tT lL) 5 30 [some (.ref a), some (.retAddr 30)] [] (mq_cpI g1 32 (a + 2) 0 0 6) Q
  rw [← e2]
  have u2 : mq_sh g2 = mq_sh g1 := by rw [e2]; rfl
  have v2 : mq_R g2 = mq_R g1 := by rw [e2]; rfl
  have m2 : mq_mod a (a + 5) 0 0 g1 g2 := by rw [e2]; exact (mq_mod.rf 0 0 _).cI (Or.inl ⟨by omega, by omega⟩) _ _ _ _
  rw [← u2] at s0 s1 s2 s3 s4
  rw [← v2] at r1 r2 r3 r4
  clear e2
  apply mq_go 60 [45]
  refine gq_i (by rw [s0]; rfl) ?_
  refine oq_s r3 ?_
  refine gq_i (by rw [s3, b3]; rfl) ?_
  obtain ⟨g3, e3⟩ : ∃ H, H = mq_cpI g2 33 (a + 3) 0 0 6 := ⟨_, rfl⟩
  show mq_At mq_G (mq_tT lL) 5 45 [some (.ref a), some (.retAddr 30)] [] (mq_cpI g2 33 (a + 3) 0 0 6) Q
  rw [← e3]
  have u3 : mq_sh g3 = mq_sh g2 := by rw [e3]; rfl
  have v3 : mq_R g3 = mq_R g2 := by rw [e3]; rfl
  have m3 : mq_mod a (a + 5) 0 0 g2 g3 := by rw [e3]; exact (mq_mod.rf 0 0 _).cI (Or.inl ⟨by omega, by omega⟩) _ _ _ _
  rw [← u3] at s0 s1 s2 s3 s4
  rw [← v3] at r1 r2 r3 r4
  clear e3
  apply mq_go 60 [60]
  refine gq_i (by rw [s0]; rfl) ?_
  refine oq_s r4 ?_
  refine gq_i (by rw [s4, b4]; rfl) ?_
  obtain ⟨g4, e4⟩ : ∃ H, H = mq_cpI g3 34 (a + 4) 0 0 18 := ⟨_, rfl⟩
  show mq_At mq_G (mq_tT lL) 5 60 [some (.ref a), some (.retAddr 30)] [] (mq_cpI g3 34 (a + 4) 0 0 18) Q
  rw [← e4]
  have u4 : mq_sh g4 = mq_sh g3 := by rw [e4]; rfl
  have v4 : mq_R g4 = mq_R g3 := by rw [e4]; rfl
  have m4 : mq_mod a (a + 5) 0 0 g3 g4 := by rw [e4]; exact (mq_mod.rf 0 0 _).cI (Or.inl ⟨by omega, by omega⟩) _ _ _ _
  rw [← u4] at s0 s1 s2 s3 s4
  rw [← v4] at r1 r2 r3 r4
  clear e4
  apply mq_go 60 []
  exact hq g4 (mq_mod.tr (n := 0) (z := 0) (mq_mod.tr (n := 0) (z := 0) (mq_mod.tr (n := 0) (z := 0) m1 m2 (by decide) (by decide)) m3 (by decide) (by decide)) m4 (by decide) (by decide)) (u4.trans (u3.trans (u2.trans u1))) (v4.trans (v3.trans (v2.trans v1)))
theorem c_cpC {a : Nat} (k : ok_C h a) (h100 : 100 ≤ a) (hq : ∀ h', mq_mod a (a + 13) 0 0 h h' → mq_sh h' = mq_sh h → mq_R h' = mq_R h → Q none h') : mq_Call mq_G (mq_tT lL) 25 [.ref a, .retAddr 17] h Q := by
  have tn := tT_none (L := lL) h100
  obtain ⟨s0, r1, s1, r2, s2, r3, s3, r4, s4, r5, s5, r6, s6, r7, s7, r8, s8, r9, s9, r10, s10, r11, s11, r12, s12⟩ := k
  have b1 := beq_far (show 18 < a + 1 by omega)
  have b2 := beq_far (show 19 < a + 2 by omega)
  have b3 := beq_far (show 20 < a + 3 by omega)
  have b4 := beq_far (show 21 < a + 4 by omega)
  have b5 := beq_far (show 22 < a + 5 by omega)
  have b6 := beq_far (show 23 < a + 6 by omega)
  have b7 := beq_far (show 24 < a + 7 by omega)
  have b8 := beq_far (show 25 < a + 8 by omega)
  have b9 := beq_far (show 26 < a + 9 by omega)
  have b10 := beq_far (show 27 < a + 10 by omega)
  have b11 := beq_far (show 28 < a + 11 by omega)
  have b12 := beq_far (show 29 < a + 12 by omega)
  apply mq_enter 60 [8]
  refine gq_i (by rw [s0]; rfl) ?_
  obtain ⟨g1, e1⟩ : ∃ H, H = mq_setI h a 0 (mq_I h 17 0) := ⟨_, rfl⟩
  show mq_At mq_G (mq_tT lL) 25 8 [some (.ref a), some (.retAddr 17)] [] (mq_setI h a 0 (mq_I h 17 0)) Q
  rw [← e1]
  have u1 : mq_sh g1 = mq_sh h := by rw [e1]; rfl
  have v1 : mq_R g1 = mq_R h := by rw [e1]; rfl
  have m1 : mq_mod a (a + 13) 0 0 h g1 := by rw [e1]; exact (mq_mod.rf 0 0 _).sI (Or.inl ⟨by omega, by omega⟩) _ _
  rw [← u1] at s0 s1 s2 s3 s4 s5 s6 s7 s8 s9 s10 s11 s12
  rw [← v1] at r1 r2 r3 r4 r5 r6 r7 r8 r9 r10 r11 r12
  clear e1
  apply mq_go 60 [23]
  refine gq_i (by rw [s0]; rfl) ?_
  refine oq_s r1 ?_
  refine gq_i (by rw [s1, b1]; rfl) ?_
  obtain ⟨g2, e2⟩ : ∃ H, H = mq_cpI g1 18 (a + 1) 0 0 60 := ⟨_, rfl⟩
  show mq_At mq_G (mq_tT lL) 25 23 [some (.ref a), some (.retAddr 17)] [] (mq_cpI g1 18 (a + 1) 0 0 60) Q
  rw [← e2]
  have u2 : mq_sh g2 = mq_sh g1 := by rw [e2]; rfl
  have v2 : mq_R g2 = mq_R g1 := by rw [e2]; rfl
  have m2 : mq_mod a (a + 13) 0 0 g1 g2 := by rw [e2]; exact (mq_mod.rf 0 0 _).cI (Or.inl ⟨by omega, by omega⟩) _ _ _ _
  rw [← u2] at s0 s1 s2 s3 s4 s5 s6 s7 s8 s9 s10 s11 s12
  rw [← v2] at r1 r2 r3 r4 r5 r6 r7 r8 r9 r10 r11 r12
  clear e2
  apply mq_go 60 [38]
  refine gq_i (by rw [s0]; rfl) ?_
  refine oq_s r2 ?_
  refine gq_i (by rw [s2, b2]; rfl) ?_
  obtain ⟨g3, e3⟩ : ∃ H, H = mq_cpI g2 19 (a + 2) 0 0 60 := ⟨_, rfl⟩
  show mq_At mq_G (mq_tT lL) 25 38 [some (.ref a), some (.retAddr 17)] [] (mq_cpI g2 19 (a + 2) 0 0 60) Q
  rw [← e3]
  have u3 : mq_sh g3 = mq_sh g2 := by rw [e3]; rfl
  have v3 : mq_R g3 = mq_R g2 := by rw [e3]; rfl
  have m3 : mq_mod a (a + 13) 0 0 g2 g3 := by rw [e3]; exact (mq_mod.rf 0 0 _).cI (Or.inl ⟨by omega, by omega⟩) _ _ _ _
  rw [← u3] at s0 s1 s2 s3 s4 s5 s6 s7 s8 s9 s10 s11 s12
  rw [← v3] at r1 r2 r3 r4 r5 r6 r7 r8 r9 r10 r11 r12
  clear e3
  apply mq_go 60 [53]
  refine gq_i (by rw [s0]; rfl) ?_
  refine oq_s r3 ?_
  refine gq_i (by rw [s3, b3]; rfl) ?_
  obtain ⟨g4, e4⟩ : ∃ H, H = mq_cpI g3 20 (a + 3) 0 0 60 := ⟨_, rfl⟩
  show mq_At mq_G (mq_tT lL) 25 53 [some (.ref a), some (.retAddr 17)] [] (mq_cpI g3 20 (a + 3) 0 0 60) Q
  rw [← e4]
  have u4 : mq_sh g4 = mq_sh g3 := by rw [e4]; rfl
  have v4 : mq_R g4 = mq_R g3 := by rw [e4]; rfl
  have m4 : mq_mod a (a + 13) 0 0 g3 g4 := by rw [e4]; exact (mq_mod.rf 0 0 _).cI (Or.inl ⟨by omega, by omega⟩) _ _ _ _
  rw [← u4] at s0 s1 s2 s3 s4 s5 s6 s7 s8 s9 s10 s11 s12
  rw [← v4] at r1 r2 r3 r4 r5 r6 r7 r8 r9 r10 r11 r12
  clear e4
  apply mq_go 60 [68]
  refine gq_i (by rw [s0]; rfl) ?_
  refine oq_s r4 ?_
  refine gq_i (by rw [s4, b4]; rfl) ?_
  obtain ⟨g5, e5⟩ : ∃ H, H = mq_cpI g4 21 (a + 4) 0 0 60 := ⟨_, rfl⟩
  show mq_At mq_G (mq_tT lL) 25 68 [some (.ref a), some (.retAddr 17)] [] (mq_cpI g4 21 (a + 4) 0 0 60) Q
  rw [← e5]
  have u5 : mq_sh g5 = mq_sh g4 := by rw [e5]; rfl
  have v5 : mq_R g5 = mq_R g4 := by rw [e5]; rfl
  have m5 : mq_mod a (a + 13) 0 0 g4 g5 := by rw [e5]; exact (mq_mod.rf 0 0 _).cI (Or.inl ⟨by omega, by omega⟩) _ _ _ _
  rw [← u5] at s0 s1 s2 s3 s4 s5 s6 s7 s8 s9 s10 s11 s12
  rw [← v5] at r1 r2 r3 r4 r5 r6 r7 r8 r9 r10 r11 r12
  clear e5
  apply mq_go 60 [83]
  refine gq_i (by rw [s0]; rfl) ?_
  refine oq_s r5 ?_
  refine gq_i (by rw [s5, b5]; rfl) ?_
  obtain ⟨g6, e6⟩ : ∃ H, H = mq_cpI g5 22 (a + 5) 0 0 60 := ⟨_, rfl⟩
  show mq_At mq_G (mq_tT lL) 25 83 [some (.ref a), some (.retAddr 17)] [] (mq_cpI g5 22 (a + 5) 0 0 60) Q
  rw [← e6]
  have u6 : mq_sh g6 = mq_sh g5 := by rw [e6]; rfl
  have v6 : mq_R g6 = mq_R g5 := by rw [e6]; rfl
  have m6 : mq_mod a (a + 13) 0 0 g5 g6 := by rw [e6]; exact (mq_mod.rf 0 0 _).cI (Or.inl ⟨by omega, by omega⟩) _ _ _ _
  rw [← u6] at s0 s1 s2 s3 s4 s5 s6 s7 s8 s9 s10 s11 s12
  rw [← v6] at r1 r2 r3 r4 r5 r6 r7 r8 r9 r10 r11 r12
  clear e6
  apply mq_go 60 [98]
  refine gq_i (by rw [s0]; rfl) ?_
  refine oq_s r6 ?_
  refine gq_i (by rw [s6, b6]; rfl) ?_
  obtain ⟨g7, e7⟩ : ∃ H, H = mq_cpI g6 23 (a + 6) 0 0 60 := ⟨_, rfl⟩
  show mq_At mq_G (mq_tT lL) 25 98 [some (.ref a), some (.retAddr 17)] [] (mq_cpI g6 23 (a + 6) 0 0 60) Q
  rw [← e7]
  have u7 : mq_sh g7 = mq_sh g6 := by rw [e7]; rfl
  have v7 : mq_R g7 = mq_R g6 := by rw [e7]; rfl
  have m7 : mq_mod a (a + 13) 0 0 g6 g7 := by rw [e7]; exact (mq_mod.rf 0 0 _).cI (Or.inl ⟨by omega, by omega⟩) _ _ _ _
  rw [← u7] at s0 s1 s2 s3 s4 s5 s6 s7 s8 s9 s10 s11 s12
  rw [← v7] at r1 r2 r3 r4 r5 r6 r7 r8 r9 r10 r11 r12
  clear e7
  apply mq_go 60 [113]
  refine gq_i (by rw [s0]; rfl) ?_
  refine oq_s r7 ?_
  refine gq_i (by rw [s7, b7]; rfl) ?_
  obtain ⟨g8, e8⟩ : ∃ H, H = mq_cpI g7 24 (a + 7) 0 0 60 := ⟨_, rfl⟩
  show mq_At mq_G (mq_tT lL) 25 113 [some (.ref a), some (.retAddr 17)] [] (mq_cpI g7 24 (a + 7) 0 0 60) Q
  rw [← e8]
  have u8 : mq_sh g8 = mq_sh g7 := by rw [e8]; rfl
  have v8 : mq_R g8 = mq_R g7 := by rw [e8]; rfl
  have m8 : mq_mod a (a + 13) 0 0 g7 g8 := by rw [e8]; exact (mq_mod.rf 0 0 _).cI (Or.inl ⟨by omega, by omega⟩) _ _ _ _
  rw [← u8] at s0 s1 s2 s3 s4 s5 s6 s7 s8 s9 s10 s11 s12
  rw [← v8] at r1 r2 r3 r4 r5 r6 r7 r8 r9 r10 r11 r12
  clear e8
  apply mq_go 60 [128]
  refine gq_i (by rw [s0]; rfl) ?_
  refine oq_s r8 ?_
  refine gq_i (by rw [s8, b8]; rfl) ?_
  obtain ⟨g9, e9⟩ : ∃ H, H = mq_cpI g8 25 (a + 8) 0 0 60 := ⟨_, rfl⟩
  show mq_At mq_G (mq_tT lL) 25 128 [some (.ref a), some (.retAddr 17)] [] (mq_cpI g8 25 (a + 8) 0 0 60) Q
  rw [← e9]
  have u9 : mq_sh g9 = mq_sh g8 := by rw [e9]; rfl
  have v9 : mq_R g9 = mq_R g8 := by rw [e9]; rfl
  have m9 : mq_mod a (a + 13) 0 0 g8 g9 := by rw [e9]; exact (mq_mod.rf 0 0 _).cI (Or.inl ⟨by omega, by omega⟩) _ _ _ _
  rw [← u9] at s0 s1 s2 s3 s4 s5 s6 s7 s8 s9 s10 s11 s12
  rw [← v9] at r1 r2 r3 r4 r5 r6 r7 r8 r9 r10 r11 r12
  clear e9
  apply mq_go 60 [144]
  refine gq_i (by rw [s0]; rfl) ?_
  refine oq_s r9 ?_
  refine gq_i (by rw [s9, b9]; rfl) ?_
  obtain ⟨g10, e10⟩ : ∃ H, H = mq_cpI g9 26 (a + 9) 0 0 720 := ⟨_, rfl⟩
  show mq_At mq_G (mq_tT lL) 25 144 [some (.ref a), some (.retAddr 17)] [] (mq_cpI g9 26 (a + 9) 0 0 720) Q
  rw [← e10]
  have u10 : mq_sh g10 = mq_sh g9 := by rw [e10]; rfl
  have v10 : mq_R g10 = mq_R g9 := by rw [e10]; rfl
  have m10 : mq_mod a (a + 13) 0 0 g9 g10 := by rw [e10]; exact (mq_mod.rf 0 0 _).cI (Or.inl ⟨by omega, by omega⟩) _ _ _ _
  rw [← u10] at s0 s1 s2 s3 s4 s5 s6 s7 s8 s9 s10 s11 s12
  rw [← v10] at r1 r2 r3 r4 r5 r6 r7 r8 r9 r10 r11 r12
  clear e10
  apply mq_go 60 [160]
  refine gq_i (by rw [s0]; rfl) ?_
  refine oq_s r10 ?_
  refine gq_i (by rw [s10, b10]; rfl) ?_
  obtain ⟨g11, e11⟩ : ∃ H, H = mq_cpI g10 27 (a + 10) 0 0 720 := ⟨_, rfl⟩
  show mq_At mq_G (mq_tT lL) 25 160 [some (.ref a), some (.retAddr 17)] [] (mq_cpI g10 27 (a + 10) 0 0 720) Q
  rw [← e11]
  have u11 : mq_sh g11 = mq_sh g10 := by rw [e11]; rfl
  have v11 : mq_R g11 = mq_R g10 := by rw [e11]; rfl
  have m11 : mq_mod a (a + 13) 0 0 g10 g11 := by rw [e11]; exact (mq_mod.rf 0 0 _).cI (Or.inl ⟨by omega, by omega⟩) _ _ _ _
  rw [← u11] at s0 s1 s2 s3 s4 s5 s6 s7 s8 s9 s10 s11 s12
  rw [← v11] at r1 r2 r3 r4 r5 r6 r7 r8 r9 r10 r11 r12
  clear e11
  apply mq_go 60 [176]
  refine gq_i (by rw [s0]; rfl) ?_
  refine oq_s r11 ?_
  refine gq_i (by rw [s11, b11]; rfl) ?_
  obtain ⟨g12, e12⟩ : ∃ H, H = mq_cpI g11 28 (a + 11) 0 0 720 := ⟨_, rfl⟩
  show mq_At mq_G (mq_tT lL) 25 176 [some (.ref a), some (.retAddr 17)] [] (mq_cpI g11 28 (a + 11) 0 0 720) Q
  rw [← e12]
  have u12 : mq_sh g12 = mq_sh g11 := by rw [e12]; rfl
  have v12 : mq_R g12 = mq_R g11 := by rw [e12]; rfl
  have m12 : mq_mod a (a + 13) 0 0 g11 g12 := by rw [e12]; exact (mq_mod.rf 0 0 _).cI (Or.inl ⟨by omega, by omega⟩) _ _ _ _
  rw [← u12] at s0 s1 s2 s3 s4 s5 s6 s7 s8 s9 s10 s11 s12
  rw [← v12] at r1 r2 r3 r4 r5 r6 r7 r8 r9 r10 r11 r12
  clear e12
  apply mq_go 60 [192]
  refine gq_i (by rw [s0]; rfl) ?_
  refine oq_s r12 ?_
  refine gq_i (by rw [s12, b12]; rfl) ?_
  obtain ⟨g13, e13⟩ : ∃ H, H = mq_cpI g12 29 (a + 12) 0 0 720 := ⟨_, rfl⟩
  show mq_At mq_G (mq_tT lL) 25 192 [some (.ref a), some (.retAddr 17)] [] (mq_cpI g12 29 (a + 12) 0 0 720) Q
  rw [← e13]
  have u13 : mq_sh g13 = mq_sh g12 := by rw [e13]; rfl
  have v13 : mq_R g13 = mq_R g12 := by rw [e13]; rfl
  have m13 : mq_mod a (a + 13) 0 0 g12 g13 := by rw [e13]; exact (mq_mod.rf 0 0 _).cI (Or.inl ⟨by omega, by omega⟩) _ _ _ _
  rw [← u13] at s0 s1 s2 s3 s4 s5 s6 s7 s8 s9 s10 s11 s12
  rw [← v13] at r1 r2 r3 r4 r5 r6 r7 r8 r9 r10 r11 r12
  clear e13
  apply mq_go 60 []
  exact hq g13 (mq_mod.tr (n := 0) (z := 0) (mq_mod.tr (n := 0) (z := 0) (mq_mod.tr (n := 0) (z := 0) (mq_mod.tr (n := 0) (z := 0) (mq_mod.tr (n := 0) (z := 0) (mq_mod.tr (n := 0) (z := 0) (mq_mod.tr (n := 0) (z := 0) (mq_mod.tr (n := 0) (z := 0) (mq_mod.tr (n := 0) (z := 0) (mq_mod.tr (n := 0) (z := 0) (mq_mod.tr (n := 0) (z := 0) (mq_mod.tr (n := 0) (z := 0) m1 m2 (by decide) (by decide)) m3 (by decide) (by decide)) m4 (by decide) (by decide)) m5 (by decide) (by decide)) m6 (by decide) (by decide)) m7 (by decide) (by decide)) m8 (by decide) (by decide)) m9 (by decide) (by decide)) m10 (by decide) (by decide)) m11 (by decide) (by decide)) m12 (by decide) (by decide)) m13 (by decide) (by decide)) (u13.trans (u12.trans (u11.trans (u10.trans (u9.trans (u8.trans (u7.trans (u6.trans (u5.trans (u4.trans (u3.trans (u2.trans u1)))))))))))) (v13.trans (v12.trans (v11.trans (v10.trans (v9.trans (v8.trans (v7.trans (v6.trans (v5.trans (v4.trans (v3.trans (v2.trans v1))))))))))))
theorem c_cpP {a : Nat} (k : ok_P h a) (h100 : 100 ≤ a) (hg : mq_gE h 13 0 8 6 = true) (hq : ∀ h', mq_mod a (a + 8) 0 0 h h' → mq_sh h' = mq_sh h → (∀ c, c ≠ a + 7 → mq_R h' c = mq_R h c) → Q none h') : mq_Call mq_G (mq_tT lL) 60 [.ref a, .retAddr 6] h Q := by
  have tn := tT_none (L := lL) h100
  obtain ⟨s0, r1, s1, r2, s2, r3, s3, r4, s4, r5, s5, r6, s6, r7, s7⟩ := k
  have b1 := beq_far (show 7 < a + 1 by omega)
  have b2 := beq_far (show 8 < a + 2 by omega)
  have b3 := beq_far (show 9 < a + 3 by omega)
  have b4 := beq_far (show 10 < a + 4 by omega)
  have b5 := beq_far (show 11 < a + 5 by omega)
  have b6 := beq_far (show 12 < a + 6 by omega)
  have b7 := beq_far (show 13 < a + 7 by omega)
  apply mq_enter 60 [15]
  refine gq_i (by rw [s0]; rfl) ?_
  refine oq_s r1 ?_
  refine gq_i (by rw [s1, b1]; rfl) ?_
  obtain ⟨g1, e1⟩ : ∃ H, H = mq_cpI h 7 (a + 1) 0 0 20 := ⟨_, rfl⟩
  show mq_At mq_G (mq_tT lL) 60 15 [some (.ref a), some (.retAddr 6)] [] (mq_cpI h 7 (a + 1) 0 0 20) Q
  rw [← e1]
  have u1 : mq_sh g1 = mq_sh h := by rw [e1]; rfl
  have v1 : mq_R g1 = mq_R h := by rw [e1]; rfl
  have m1 : mq_mod a (a + 8) 0 0 h g1 := by rw [e1]; exact (mq_mod.rf 0 0 _).cI (Or.inl ⟨by omega, by omega⟩) _ _ _ _
  rw [← u1] at s0 s1 s2 s3 s4 s5 s6 s7
  rw [← v1] at r1 r2 r3 r4 r5 r6 r7
  have hg : mq_gE g1 13 0 8 6 = true := by unfold mq_gE; rw [u1, v1]; exact hg
  clear e1
  apply mq_go 60 [23]
  refine gq_i (by rw [s0]; rfl) ?_
  obtain ⟨g2, e2⟩ : ∃ H, H = mq_setI g1 a 1 (mq_I g1 6 1) := ⟨_, rfl⟩
  show mq_At mq_G (mq_tT lL) 60 23 [some (.ref a), some (.retAddr 6)] [] (mq_setI g1 a 1 (mq_I g1 6 1)) Q
  rw [← e2]
  have u2 : mq_sh g2 = mq_sh g1 := by rw [e2]; rfl
  have v2 : mq_R g2 = mq_R g1 := by rw [e2]; rfl
  have m2 : mq_mod a (a + 8) 0 0 g1 g2 := by rw [e2]; exact (mq_mod.rf 0 0 _).sI (Or.inl ⟨by omega, by omega⟩) _ _
  rw [← u2] at s0 s1 s2 s3 s4 s5 s6 s7
  rw [← v2] at r1 r2 r3 r4 r5 r6 r7
  have hg : mq_gE g2 13 0 8 6 = true := by unfold mq_gE; rw [u2, v2]; exact hg
  clear e2
  apply mq_go 60 [38]
  refine gq_i (by rw [s0]; rfl) ?_
  refine oq_s r2 ?_
  refine gq_i (by rw [s2, b2]; rfl) ?_
  obtain ⟨g3, e3⟩ : ∃ H, H = mq_cpI g2 8 (a + 2) 0 0 6 := ⟨_, rfl⟩
  show mq_At mq_G (mq_tT lL) 60 38 [some (.ref a), some (.retAddr 6)] [] (mq_cpI g2 8 (a + 2) 0 0 6) Q
  rw [← e3]
  have u3 : mq_sh g3 = mq_sh g2 := by rw [e3]; rfl
  have v3 : mq_R g3 = mq_R g2 := by rw [e3]; rfl
  have m3 : mq_mod a (a + 8) 0 0 g2 g3 := by rw [e3]; exact (mq_mod.rf 0 0 _).cI (Or.inl ⟨by omega, by omega⟩) _ _ _ _
  rw [← u3] at s0 s1 s2 s3 s4 s5 s6 s7
  rw [← v3] at r1 r2 r3 r4 r5 r6 r7
  have hg : mq_gE g3 13 0 8 6 = true := by unfold mq_gE; rw [u3, v3]; exact hg
  clear e3
  apply mq_go 60 [53]
  refine gq_i (by rw [s0]; rfl) ?_
  refine oq_s r3 ?_
  refine gq_i (by rw [s3, b3]; rfl) ?_
  obtain ⟨g4, e4⟩ : ∃ H, H = mq_cpI g3 9 (a + 3) 0 0 6 := ⟨_, rfl⟩
  show mq_At mq_G (mq_tT lL) 60 53 [some (.ref a), some (.retAddr 6)] [] (mq_cpI g3 9 (a + 3) 0 0 6) Q
  rw [← e4]
  have u4 : mq_sh g4 = mq_sh g3 := by rw [e4]; rfl
  have v4 : mq_R g4 = mq_R g3 := by rw [e4]; rfl
  have m4 : mq_mod a (a + 8) 0 0 g3 g4 := by rw [e4]; exact (mq_mod.rf 0 0 _).cI (Or.inl ⟨by omega, by omega⟩) _ _ _ _
  rw [← u4] at s0 s1 s2 s3 s4 s5 s6 s7
  rw [← v4] at r1 r2 r3 r4 r5 r6 r7
  have hg : mq_gE g4 13 0 8 6 = true := by unfold mq_gE; rw [u4, v4]; exact hg
  clear e4
  apply mq_go 60 [68]
  refine gq_i (by rw [s0]; rfl) ?_
  refine oq_s r4 ?_
  refine gq_i (by rw [s4, b4]; rfl) ?_
  obtain ⟨g5, e5⟩ : ∃ H, H = mq_cpI g4 10 (a + 4) 0 0 24 := ⟨_, rfl⟩
  show mq_At mq_G (mq_tT lL) 60 68 [some (.ref a), some (.retAddr 6)] [] (mq_cpI g4 10 (a + 4) 0 0 24) Q
  rw [← e5]
  have u5 : mq_sh g5 = mq_sh g4 := by rw [e5]; rfl
  have v5 : mq_R g5 = mq_R g4 := by rw [e5]; rfl
  have m5 : mq_mod a (a + 8) 0 0 g4 g5 := by rw [e5]; exact (mq_mod.rf 0 0 _).cI (Or.inl ⟨by omega, by omega⟩) _ _ _ _
  rw [← u5] at s0 s1 s2 s3 s4 s5 s6 s7
  rw [← v5] at r1 r2 r3 r4 r5 r6 r7
  have hg : mq_gE g5 13 0 8 6 = true := by unfold mq_gE; rw [u5, v5]; exact hg
  clear e5
  apply mq_go 60 [83]
  refine gq_i (by rw [s0]; rfl) ?_
  refine oq_s r5 ?_
  refine gq_i (by rw [s5, b5]; rfl) ?_
  obtain ⟨g6, e6⟩ : ∃ H, H = mq_cpI g5 11 (a + 5) 0 0 24 := ⟨_, rfl⟩
  show mq_At mq_G (mq_tT lL) 60 83 [some (.ref a), some (.retAddr 6)] [] (mq_cpI g5 11 (a + 5) 0 0 24) Q
  rw [← e6]
  have u6 : mq_sh g6 = mq_sh g5 := by rw [e6]; rfl
  have v6 : mq_R g6 = mq_R g5 := by rw [e6]; rfl
  have m6 : mq_mod a (a + 8) 0 0 g5 g6 := by rw [e6]; exact (mq_mod.rf 0 0 _).cI (Or.inl ⟨by omega, by omega⟩) _ _ _ _
  rw [← u6] at s0 s1 s2 s3 s4 s5 s6 s7
  rw [← v6] at r1 r2 r3 r4 r5 r6 r7
  have hg : mq_gE g6 13 0 8 6 = true := by unfold mq_gE; rw [u6, v6]; exact hg
  clear e6
  apply mq_go 60 [98]
  refine gq_i (by rw [s0]; rfl) ?_
  refine oq_s r6 ?_
  refine gq_i (by rw [s6, b6]; rfl) ?_
  obtain ⟨g7, e7⟩ : ∃ H, H = mq_cpI g6 12 (a + 6) 0 0 24 := ⟨_, rfl⟩
  show mq_At mq_G (mq_tT lL) 60 98 [some (.ref a), some (.retAddr 6)] [] (mq_cpI g6 12 (a + 6) 0 0 24) Q
  rw [← e7]
  have u7 : mq_sh g7 = mq_sh g6 := by rw [e7]; rfl
  have v7 : mq_R g7 = mq_R g6 := by rw [e7]; rfl
  have m7 : mq_mod a (a + 8) 0 0 g6 g7 := by rw [e7]; exact (mq_mod.rf 0 0 _).cI (Or.inl ⟨by omega, by omega⟩) _ _ _ _
  rw [← u7] at s0 s1 s2 s3 s4 s5 s6 s7
  rw [← v7] at r1 r2 r3 r4 r5 r6 r7
  have hg : mq_gE g7 13 0 8 6 = true := by unfold mq_gE; rw [u7, v7]; exact hg
  clear e7
  apply mq_go 60 [113]
  refine gq_i (by rw [s0]; rfl) ?_
  refine oq_s r7 ?_
  refine gq_i (by rw [s7, b7]; exact hg) ?_
  obtain ⟨g8, e8⟩ : ∃ H, H = mq_cpR g7 13 (a + 7) 0 0 8 := ⟨_, rfl⟩
  show mq_At mq_G (mq_tT lL) 60 113 [some (.ref a), some (.retAddr 6)] [] (mq_cpR g7 13 (a + 7) 0 0 8) Q
  rw [← e8]
  have u8 : mq_sh g8 = mq_sh g7 := by rw [e8]; rfl
  have w : ∀ c, c ≠ a + 7 → mq_R g8 c = mq_R g7 c := fun c hc => by funext j; rw [e8]; exact mq_R_cpR _ _ _ _ _ _ _ _ hc
  have m8 : mq_mod a (a + 8) 0 0 g7 g8 := by rw [e8]; exact (mq_mod.rf 0 0 _).cR (Or.inl ⟨by omega, by omega⟩) _ _ _ _
  rw [← u8] at s0 s1 s2 s3 s4 s5 s6 s7
  clear e8
  apply mq_go 60 []
  exact hq g8 (mq_mod.tr (n := 0) (z := 0) (mq_mod.tr (n := 0) (z := 0) (mq_mod.tr (n := 0) (z := 0) (mq_mod.tr (n := 0) (z := 0) (mq_mod.tr (n := 0) (z := 0) (mq_mod.tr (n := 0) (z := 0) (mq_mod.tr (n := 0) (z := 0) m1 m2 (by decide) (by decide)) m3 (by decide) (by decide)) m4 (by decide) (by decide)) m5 (by decide) (by decide)) m6 (by decide) (by decide)) m7 (by decide) (by decide)) m8 (by decide) (by decide)) (u8.trans (u7.trans (u6.trans (u5.trans (u4.trans (u3.trans (u2.trans u1))))))) (fun c hc => (w c hc).trans (congrFun (v7.trans (v6.trans (v5.trans (v4.trans (v3.trans (v2.trans v1)))))) c))
end PC13
