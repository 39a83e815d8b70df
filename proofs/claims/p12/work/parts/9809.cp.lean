/-! A BOOK COPIED, with its values, both ways -/
section XU
variable {lL : Nat} {h g : mq_H} {Q : Option Value → mq_H → Prop}
def x_nd (c : Nat) : List (Nat × Nat × Nat × Nat) → Prop
  | [] => True
  | e :: l => ¬ c = e.2.1 ∧ x_nd c l
def x_vs (h g : mq_H) : List (Nat × Nat × Nat × Nat) → Prop
  | [] => True
  | e :: l => (∀ k, e.2.2.1 ≤ k → k < e.2.2.2 → mq_I g e.2.1 k = mq_I h e.1 k) ∧ x_vs h g l
/-- the places l copied, references at rr alone changed -/
def x_cv (rr : Nat) (l : List (Nat × Nat × Nat × Nat)) (h g : mq_H) : Prop := mq_N g = mq_N h ∧ mq_Z g = mq_Z h ∧ mq_sh g = mq_sh h ∧ (∀ c, ¬ c = rr → mq_R g c = mq_R h c) ∧ (∀ c, x_nd c l → mq_I g c = mq_I h c) ∧ x_vs h g l
theorem x_nd_c {c s d lo hi : Nat} {l : List (Nat × Nat × Nat × Nat)} (hc : ¬ c = d) (hl : x_nd c l) : x_nd c ((s, d, lo, hi) :: l) := ⟨hc, hl⟩
theorem x_vs_fr {h g g' : mq_H} {d : Nat} (hf : ∀ c, ¬ c = d → mq_I g' c = mq_I g c) : ∀ (l : List (Nat × Nat × Nat × Nat)), x_nd d l → x_vs h g l → x_vs h g' l
  | [], _, _ => trivial
  | e :: l, hd, H => ⟨fun k k1 k2 => by rw [hf e.2.1 (fun z => hd.1 z.symm)]; exact H.1 k k1 k2, x_vs_fr hf l hd.2 H.2⟩
theorem x_cv.cp {rr : Nat} {l : List (Nat × Nat × Nat × Nat)} (V : x_cv rr l h g) {s d n : Nat} (hs : x_nd s l) (hd : x_nd d l) : x_cv rr ((s, d, 0, n) :: l) h (mq_cpI g s d 0 0 n) := by
  obtain ⟨v1, v2, v3, v4, v5, v6⟩ := V
  refine ⟨v1, v2, v3, v4, fun c hc => (mq_cpI_ne hc.1 0 0 n).trans (v5 c hc.2), fun k _ k2 => ?_, x_vs_fr (fun c hc => mq_cpI_ne hc 0 0 n) l hd v6⟩
  have e : mq_I (mq_cpI g s d 0 0 n) d k = va_cpy (mq_I g s) (mq_I g d) 0 0 n k := if_pos rfl
  show mq_I (mq_cpI g s d 0 0 n) d k = mq_I h s k
  rw [e]
  unfold va_cpy
  have k2 : k < n := k2
  rw [if_pos ⟨Nat.zero_le _, by omega⟩, ← v5 s hs]
  show mq_I g s (0 + (k - 0)) = _
  rw [Nat.zero_add, Nat.sub_zero]
theorem x_cv.fl {rr : Nat} {l : List (Nat × Nat × Nat × Nat)} (V : x_cv rr l h g) {s d j : Nat} (hs : x_nd s l) (hd : x_nd d l) : x_cv rr ((s, d, j, j + 1) :: l) h (mq_setI g d j (mq_I g s j)) := by
  obtain ⟨v1, v2, v3, v4, v5, v6⟩ := V
  refine ⟨v1, v2, v3, v4, fun c hc => (mq_setI_ne hc.1 j _).trans (v5 c hc.2), fun k k1 k2 => ?_, x_vs_fr (fun c hc => mq_setI_ne hc j _) l hd v6⟩
  have k1 : j ≤ k := k1
  have k2 : k < j + 1 := k2
  have e : k = j := by omega
  show mq_I (mq_setI g d j (mq_I g s j)) d k = mq_I h s k
  rw [e, mq_I_setI, if_pos rfl, if_pos rfl, v5 s hs]
theorem x_vs_I {h g g' : mq_H} (e : mq_I g' = mq_I g) : ∀ (l : List (Nat × Nat × Nat × Nat)), x_vs h g l → x_vs h g' l
  | [], _ => trivial
  | e0 :: l, H => ⟨fun k k1 k2 => by rw [e]; exact H.1 k k1 k2, x_vs_I e l H.2⟩
theorem x_cv.cR {rr s : Nat} {l : List (Nat × Nat × Nat × Nat)} (V : x_cv rr l h g) (hs : ¬ s = rr) : x_cv rr l h (mq_cpR g s rr 0 0 8) ∧ ∀ i, i < 8 → mq_R (mq_cpR g s rr 0 0 8) rr i = mq_R h s i := by
  obtain ⟨v1, v2, v3, v4, v5, v6⟩ := V
  refine ⟨⟨v1, v2, v3, fun c hc => ?_, fun c hc => v5 c hc, x_vs_I (g := g) (g' := mq_cpR g s rr 0 0 8) rfl l v6⟩, fun i hi => ?_⟩
  · funext x
    exact (if_neg hc : mq_R (mq_cpR g s rr 0 0 8) c x = mq_R g c x).trans (congrFun (v4 c hc) x)
  · have e : mq_R (mq_cpR g s rr 0 0 8) rr i = va_cpy (mq_R g s) (mq_R g rr) 0 0 8 i := if_pos rfl
    rw [e]
    unfold va_cpy
    rw [if_pos ⟨Nat.zero_le _, by omega⟩]
    show mq_R g s (0 + (i - 0)) = _
    rw [Nat.zero_add, Nat.sub_zero, v4 s hs]
theorem x_cv.rf (rr : Nat) (h : mq_H) : x_cv rr [] h h := ⟨rfl, rfl, rfl, fun _ _ => rfl, fun _ _ => rfl, trivial⟩
theorem d_cpA1 {a : Nat} {rr : Nat} (hr1 : ¬ a = rr) {l0 : List (Nat × Nat × Nat × Nat)} (V : x_cv rr l0 h g) (k : ok_A h a) (h100 : 100 ≤ a) (H1 : ∀ c, 30 ≤ c → c ≤ 34 → x_nd c l0) (H2 : ∀ c, a ≤ c → c ≤ a + 4 → x_nd c l0) (hq : ∀ h', x_cv rr ([(34, a + 4, 0, 18), (33, a + 3, 0, 6), (32, a + 2, 0, 6), (31, a + 1, 0, 6)] ++ l0) h h' → mq_R h' = mq_R g → Q none h') : mq_Call mq_G (mq_tT lL) 5 [.ref a, .retAddr 30] g Q := by
  have tn := tT_none (L := lL) h100
  obtain ⟨s0, r1, s1, r2, s2, r3, s3, r4, s4⟩ := k
  have b1 := beq_far (show 31 < a + 1 by omega)
  have b2 := beq_far (show 32 < a + 2 by omega)
  have b3 := beq_far (show 33 < a + 3 by omega)
  have b4 := beq_far (show 34 < a + 4 by omega)
  have hs0 : mq_sh g = mq_sh h := V.2.2.1
  have hr10 : mq_R g a = mq_R h a := V.2.2.2.1 a hr1
  apply mq_enter 60 [15]
  refine gq_i (by rw [hs0, s0]; rfl) ?_
  refine oq_s (by rw [hr10]; exact r1) ?_
  refine gq_i (by rw [hs0, s1, b1]; rfl) ?_
  obtain ⟨g0, e0⟩ : ∃ H, H = mq_cpI g 31 (a + 1) 0 0 6 := ⟨_, rfl⟩
  show mq_At mq_G (mq_tT lL) 5 15 [some (.ref a), some (.retAddr 30)] [] (mq_cpI g 31 (a + 1) 0 0 6) Q
  rw [← e0]
  have V0 := V.cp (s := 31) (d := a + 1) (n := 6) (H1 _ (by omega) (by omega)) (H2 _ (by omega) (by omega))
  rw [← e0] at V0
  have q0 : mq_R g0 = mq_R g := by rw [e0]; exact rfl
  clear e0
  have hs1 : mq_sh g0 = mq_sh h := V0.2.2.1
  have hr11 : mq_R g0 a = mq_R h a := V0.2.2.2.1 a hr1
  apply mq_go 60 [30]
  refine gq_i (by rw [hs1, s0]; rfl) ?_
  refine oq_s (by rw [hr11]; exact r2) ?_
  refine gq_i (by rw [hs1, s2, b2]; rfl) ?_
  obtain ⟨g1, e1⟩ : ∃ H, H = mq_cpI g0 32 (a + 2) 0 0 6 := ⟨_, rfl⟩
  show mq_At mq_G (mq_tT lL) 5 30 [some (.ref a), some (.retAddr 30)] [] (mq_cpI g0 32 (a + 2) 0 0 6) Q
  rw [← e1]
  have V1 := V0.cp (s := 32) (d := a + 2) (n := 6) (x_nd_c (by omega) (H1 _ (by omega) (by omega))) (x_nd_c (by omega) (H2 _ (by omega) (by omega)))
  rw [← e1] at V1
  have q1 : mq_R g1 = mq_R g := by rw [e1]; exact q0
  clear e1
  have hs2 : mq_sh g1 = mq_sh h := V1.2.2.1
  have hr12 : mq_R g1 a = mq_R h a := V1.2.2.2.1 a hr1
  apply mq_go 60 [45]
  refine gq_i (by rw [hs2, s0]; rfl) ?_
  refine oq_s (by rw [hr12]; exact r3) ?_
  refine gq_i (by rw [hs2, s3, b3]; rfl) ?_
  obtain ⟨g2, e2⟩ : ∃ H, H = mq_cpI g1 33 (a + 3) 0 0 6 := ⟨_, rfl⟩
  show mq_At mq_G (mq_tT lL) 5 45 [some (.ref a), some (.retAddr 30)] [] (mq_cpI g1 33 (a + 3) 0 0 6) Q
  rw [← e2]
  have V2 := V1.cp (s := 33) (d := a + 3) (n := 6) (x_nd_c (by omega) (x_nd_c (by omega) (H1 _ (by omega) (by omega)))) (x_nd_c (by omega) (x_nd_c (by omega) (H2 _ (by omega) (by omega))))
  rw [← e2] at V2
  have q2 : mq_R g2 = mq_R g := by rw [e2]; exact q1
  clear e2
  have hs3 : mq_sh g2 = mq_sh h := V2.2.2.1
  have hr13 : mq_R g2 a = mq_R h a := V2.2.2.2.1 a hr1
  apply mq_go 60 [60]
  refine gq_i (by rw [hs3, s0]; rfl) ?_
  refine oq_s (by rw [hr13]; exact r4) ?_
  refine gq_i (by rw [hs3, s4, b4]; rfl) ?_
  obtain ⟨g3, e3⟩ : ∃ H, H = mq_cpI g2 34 (a + 4) 0 0 18 := ⟨_, rfl⟩
  show mq_At mq_G (mq_tT lL) 5 60 [some (.ref a), some (.retAddr 30)] [] (mq_cpI g2 34 (a + 4) 0 0 18) Q
  rw [← e3]
  have V3 := V2.cp (s := 34) (d := a + 4) (n := 18) (x_nd_c (by omega) (x_nd_c (by omega) (x_nd_c (by omega) (H1 _ (by omega) (by omega))))) (x_nd_c (by omega) (x_nd_c (by omega) (x_nd_c (by omega) (H2 _ (by omega) (by omega)))))
  rw [← e3] at V3
  have q3 : mq_R g3 = mq_R g := by rw [e3]; exact q2
  clear e3
  apply mq_go 20 []
  exact hq _ V3 q3
theorem d_cpA2 {a : Nat} {rr : Nat} (hr1 : ¬ a = rr) {l0 : List (Nat × Nat × Nat × Nat)} (V : x_cv rr l0 h g) (k : ok_A h a) (h100 : 100 ≤ a) (H1 : ∀ c, 30 ≤ c → c ≤ 34 → x_nd c l0) (H2 : ∀ c, a ≤ c → c ≤ a + 4 → x_nd c l0) (hq : ∀ h', x_cv rr ([(a + 4, 34, 0, 18), (a + 3, 33, 0, 6), (a + 2, 32, 0, 6), (a + 1, 31, 0, 6)] ++ l0) h h' → mq_R h' = mq_R g → Q none h') : mq_Call mq_G (mq_tT lL) 5 [.retAddr 30, .ref a] g Q := by
  have tn := tT_none (L := lL) h100
  obtain ⟨s0, r1, s1, r2, s2, r3, s3, r4, s4⟩ := k
  have b1 : Nat.beq (a + 1) 31 = false := by
    cases e : Nat.beq (a + 1) 31 with
    | false => rfl
    | true => have := Nat.eq_of_beq_eq_true e; omega
  have b2 : Nat.beq (a + 2) 32 = false := by
    cases e : Nat.beq (a + 2) 32 with
    | false => rfl
    | true => have := Nat.eq_of_beq_eq_true e; omega
  have b3 : Nat.beq (a + 3) 33 = false := by
    cases e : Nat.beq (a + 3) 33 with
    | false => rfl
    | true => have := Nat.eq_of_beq_eq_true e; omega
  have b4 : Nat.beq (a + 4) 34 = false := by
    cases e : Nat.beq (a + 4) 34 with
    | false => rfl
    | true => have := Nat.eq_of_beq_eq_true e; omega
  have hs0 : mq_sh g = mq_sh h := V.2.2.1
  have hr10 : mq_R g a = mq_R h a := V.2.2.2.1 a hr1
  apply mq_enter 60 [15]
  refine gq_i (by rw [hs0, s0]; rfl) ?_
  refine oq_s (by rw [hr10]; exact r1) ?_
  refine gq_i (by rw [hs0, s1, b1]; rfl) ?_
  obtain ⟨g0, e0⟩ : ∃ H, H = mq_cpI g (a + 1) 31 0 0 6 := ⟨_, rfl⟩
  show mq_At mq_G (mq_tT lL) 5 15 [some (.retAddr 30), some (.ref a)] [] (mq_cpI g (a + 1) 31 0 0 6) Q
  rw [← e0]
  have V0 := V.cp (s := a + 1) (d := 31) (n := 6) (H2 _ (by omega) (by omega)) (H1 _ (by omega) (by omega))
  rw [← e0] at V0
  have q0 : mq_R g0 = mq_R g := by rw [e0]; exact rfl
  clear e0
  have hs1 : mq_sh g0 = mq_sh h := V0.2.2.1
  have hr11 : mq_R g0 a = mq_R h a := V0.2.2.2.1 a hr1
  apply mq_go 60 [30]
  refine gq_i (by rw [hs1, s0]; rfl) ?_
  refine oq_s (by rw [hr11]; exact r2) ?_
  refine gq_i (by rw [hs1, s2, b2]; rfl) ?_
  obtain ⟨g1, e1⟩ : ∃ H, H = mq_cpI g0 (a + 2) 32 0 0 6 := ⟨_, rfl⟩
  show mq_At mq_G (mq_tT lL) 5 30 [some (.retAddr 30), some (.ref a)] [] (mq_cpI g0 (a + 2) 32 0 0 6) Q
  rw [← e1]
  have V1 := V0.cp (s := a + 2) (d := 32) (n := 6) (x_nd_c (by omega) (H2 _ (by omega) (by omega))) (x_nd_c (by omega) (H1 _ (by omega) (by omega)))
  rw [← e1] at V1
  have q1 : mq_R g1 = mq_R g := by rw [e1]; exact q0
  clear e1
  have hs2 : mq_sh g1 = mq_sh h := V1.2.2.1
  have hr12 : mq_R g1 a = mq_R h a := V1.2.2.2.1 a hr1
  apply mq_go 60 [45]
  refine gq_i (by rw [hs2, s0]; rfl) ?_
  refine oq_s (by rw [hr12]; exact r3) ?_
  refine gq_i (by rw [hs2, s3, b3]; rfl) ?_
  obtain ⟨g2, e2⟩ : ∃ H, H = mq_cpI g1 (a + 3) 33 0 0 6 := ⟨_, rfl⟩
  show mq_At mq_G (mq_tT lL) 5 45 [some (.retAddr 30), some (.ref a)] [] (mq_cpI g1 (a + 3) 33 0 0 6) Q
  rw [← e2]
  have V2 := V1.cp (s := a + 3) (d := 33) (n := 6) (x_nd_c (by omega) (x_nd_c (by omega) (H2 _ (by omega) (by omega)))) (x_nd_c (by omega) (x_nd_c (by omega) (H1 _ (by omega) (by omega))))
  rw [← e2] at V2
  have q2 : mq_R g2 = mq_R g := by rw [e2]; exact q1
  clear e2
  have hs3 : mq_sh g2 = mq_sh h := V2.2.2.1
  have hr13 : mq_R g2 a = mq_R h a := V2.2.2.2.1 a hr1
  apply mq_go 60 [60]
  refine gq_i (by rw [hs3, s0]; rfl) ?_
  refine oq_s (by rw [hr13]; exact r4) ?_
  refine gq_i (by rw [hs3, s4, b4]; rfl) ?_
  obtain ⟨g3, e3⟩ : ∃ H, H = mq_cpI g2 (a + 4) 34 0 0 18 := ⟨_, rfl⟩
  show mq_At mq_G (mq_tT lL) 5 60 [some (.retAddr 30), some (.ref a)] [] (mq_cpI g2 (a + 4) 34 0 0 18) Q
  rw [← e3]
  have V3 := V2.cp (s := a + 4) (d := 34) (n := 18) (x_nd_c (by omega) (x_nd_c (by omega) (x_nd_c (by omega) (H2 _ (by omega) (by omega))))) (x_nd_c (by omega) (x_nd_c (by omega) (x_nd_c (by omega) (H1 _ (by omega) (by omega)))))
  rw [← e3] at V3
  have q3 : mq_R g3 = mq_R g := by rw [e3]; exact q2
  clear e3
  apply mq_go 20 []
  exact hq _ V3 q3
theorem d_cpC1 {a : Nat} {rr : Nat} (hr1 : ¬ a = rr) {l0 : List (Nat × Nat × Nat × Nat)} (V : x_cv rr l0 h g) (k : ok_C h a) (h100 : 100 ≤ a) (H1 : ∀ c, 17 ≤ c → c ≤ 29 → x_nd c l0) (H2 : ∀ c, a ≤ c → c ≤ a + 12 → x_nd c l0) (hq : ∀ h', x_cv rr ([(29, a + 12, 0, 720), (28, a + 11, 0, 720), (27, a + 10, 0, 720), (26, a + 9, 0, 720), (25, a + 8, 0, 60), (24, a + 7, 0, 60), (23, a + 6, 0, 60), (22, a + 5, 0, 60), (21, a + 4, 0, 60), (20, a + 3, 0, 60), (19, a + 2, 0, 60), (18, a + 1, 0, 60), (17, a, 0, 0 + 1)] ++ l0) h h' → mq_R h' = mq_R g → Q none h') : mq_Call mq_G (mq_tT lL) 25 [.ref a, .retAddr 17] g Q := by
  have tn := tT_none (L := lL) h100
  obtain ⟨s0, r1, s1, r2, s2, r3, s3, r4, s4, r5, s5, r6, s6, r7, s7, r8, s8, r9, s9, r10, s10, r11, s11, r12, s12⟩ := k
  have b1 := beq_far (show 18 < a + 1 by omega)
  have b2 := beq_far (show 19 < a + 2 by omega)
  have b3 := beq_far (show 20 < a + 3 by omega)
  have b4 := beq_far (show 21 < a + 4 by omega)
  have b5 := beq_far (show 22 < a + 5 by omega)
  have b6 := beq_far (show 23 < a + 6 by omega)
  have b7 := beq_far (show 24 < a + 7 by omega)
  have b8 := beq_far (show 25 < a + 8 by omega)
  have b9 := beq_far (show 26 < a + 9 by omega)
  have b10 := beq_far (show 27 < a + 10 by omega)
  have b11 := beq_far (show 28 < a + 11 by omega)
  have b12 := beq_far (show 29 < a + 12 by omega)
  have hs0 : mq_sh g = mq_sh h := V.2.2.1
  have hr10 : mq_R g a = mq_R h a := V.2.2.2.1 a hr1
  apply mq_enter 60 [8]
  refine gq_i (by rw [hs0, s0]; rfl) ?_
  obtain ⟨g0, e0⟩ : ∃ H, H = mq_setI g a 0 (mq_I g 17 0) := ⟨_, rfl⟩
  show mq_At mq_G (mq_tT lL) 25 8 [some (.ref a), some (.retAddr 17)] [] (mq_setI g a 0 (mq_I g 17 0)) Q
  rw [← e0]
  have V0 := V.fl (s := 17) (d := a) (j := 0) (H1 _ (by omega) (by omega)) (H2 _ (by omega) (by omega))
  rw [← e0] at V0
  have q0 : mq_R g0 = mq_R g := by rw [e0]; exact rfl
  clear e0
  have hs1 : mq_sh g0 = mq_sh h := V0.2.2.1
  have hr11 : mq_R g0 a = mq_R h a := V0.2.2.2.1 a hr1
  apply mq_go 60 [23]
  refine gq_i (by rw [hs1, s0]; rfl) ?_
  refine oq_s (by rw [hr11]; exact r1) ?_
  refine gq_i (by rw [hs1, s1, b1]; rfl) ?_
  obtain ⟨g1, e1⟩ : ∃ H, H = mq_cpI g0 18 (a + 1) 0 0 60 := ⟨_, rfl⟩
  show mq_At mq_G (mq_tT lL) 25 23 [some (.ref a), some (.retAddr 17)] [] (mq_cpI g0 18 (a + 1) 0 0 60) Q
  rw [← e1]
  have V1 := V0.cp (s := 18) (d := a + 1) (n := 60) (x_nd_c (by omega) (H1 _ (by omega) (by omega))) (x_nd_c (by omega) (H2 _ (by omega) (by omega)))
  rw [← e1] at V1
  have q1 : mq_R g1 = mq_R g := by rw [e1]; exact q0
  clear e1
  have hs2 : mq_sh g1 = mq_sh h := V1.2.2.1
  have hr12 : mq_R g1 a = mq_R h a := V1.2.2.2.1 a hr1
  apply mq_go 60 [38]
  refine gq_i (by rw [hs2, s0]; rfl) ?_
  refine oq_s (by rw [hr12]; exact r2) ?_
  refine gq_i (by rw [hs2, s2, b2]; rfl) ?_
  obtain ⟨g2, e2⟩ : ∃ H, H = mq_cpI g1 19 (a + 2) 0 0 60 := ⟨_, rfl⟩
  show mq_At mq_G (mq_tT lL) 25 38 [some (.ref a), some (.retAddr 17)] [] (mq_cpI g1 19 (a + 2) 0 0 60) Q
  rw [← e2]
  have V2 := V1.cp (s := 19) (d := a + 2) (n := 60) (x_nd_c (by omega) (x_nd_c (by omega) (H1 _ (by omega) (by omega)))) (x_nd_c (by omega) (x_nd_c (by omega) (H2 _ (by omega) (by omega))))
  rw [← e2] at V2
  have q2 : mq_R g2 = mq_R g := by rw [e2]; exact q1
  clear e2
  have hs3 : mq_sh g2 = mq_sh h := V2.2.2.1
  have hr13 : mq_R g2 a = mq_R h a := V2.2.2.2.1 a hr1
  apply mq_go 60 [53]
  refine gq_i (by rw [hs3, s0]; rfl) ?_
  refine oq_s (by rw [hr13]; exact r3) ?_
  refine gq_i (by rw [hs3, s3, b3]; rfl) ?_
  obtain ⟨g3, e3⟩ : ∃ H, H = mq_cpI g2 20 (a + 3) 0 0 60 := ⟨_, rfl⟩
  show mq_At mq_G (mq_tT lL) 25 53 [some (.ref a), some (.retAddr 17)] [] (mq_cpI g2 20 (a + 3) 0 0 60) Q
  rw [← e3]
  have V3 := V2.cp (s := 20) (d := a + 3) (n := 60) (x_nd_c (by omega) (x_nd_c (by omega) (x_nd_c (by omega) (H1 _ (by omega) (by omega))))) (x_nd_c (by omega) (x_nd_c (by omega) (x_nd_c (by omega) (H2 _ (by omega) (by omega)))))
  rw [← e3] at V3
  have q3 : mq_R g3 = mq_R g := by rw [e3]; exact q2
  clear e3
  have hs4 : mq_sh g3 = mq_sh h := V3.2.2.1
  have hr14 : mq_R g3 a = mq_R h a := V3.2.2.2.1 a hr1
  apply mq_go 60 [68]
  refine gq_i (by rw [hs4, s0]; rfl) ?_
  refine oq_s (by rw [hr14]; exact r4) ?_
  refine gq_i (by rw [hs4, s4, b4]; rfl) ?_
  obtain ⟨g4, e4⟩ : ∃ H, H = mq_cpI g3 21 (a + 4) 0 0 60 := ⟨_, rfl⟩
  show mq_At mq_G (mq_tT lL) 25 68 [some (.ref a), some (.retAddr 17)] [] (mq_cpI g3 21 (a + 4) 0 0 60) Q
  rw [← e4]
  have V4 := V3.cp (s := 21) (d := a + 4) (n := 60) (x_nd_c (by omega) (x_nd_c (by omega) (x_nd_c (by omega) (x_nd_c (by omega) (H1 _ (by omega) (by omega)))))) (x_nd_c (by omega) (x_nd_c (by omega) (x_nd_c (by omega) (x_nd_c (by omega) (H2 _ (by omega) (by omega))))))
  rw [← e4] at V4
  have q4 : mq_R g4 = mq_R g := by rw [e4]; exact q3
  clear e4
  have hs5 : mq_sh g4 = mq_sh h := V4.2.2.1
  have hr15 : mq_R g4 a = mq_R h a := V4.2.2.2.1 a hr1
  apply mq_go 60 [83]
  refine gq_i (by rw [hs5, s0]; rfl) ?_
  refine oq_s (by rw [hr15]; exact r5) ?_
  refine gq_i (by rw [hs5, s5, b5]; rfl) ?_
  obtain ⟨g5, e5⟩ : ∃ H, H = mq_cpI g4 22 (a + 5) 0 0 60 := ⟨_, rfl⟩
  show mq_At mq_G (mq_tT lL) 25 83 [some (.ref a), some (.retAddr 17)] [] (mq_cpI g4 22 (a + 5) 0 0 60) Q
  rw [← e5]
  have V5 := V4.cp (s := 22) (d := a + 5) (n := 60) (x_nd_c (by omega) (x_nd_c (by omega) (x_nd_c (by omega) (x_nd_c (by omega) (x_nd_c (by omega) (H1 _ (by omega) (by omega))))))) (x_nd_c (by omega) (x_nd_c (by omega) (x_nd_c (by omega) (x_nd_c (by omega) (x_nd_c (by omega) (H2 _ (by omega) (by omega)))))))
  rw [← e5] at V5
  have q5 : mq_R g5 = mq_R g := by rw [e5]; exact q4
  clear e5
  have hs6 : mq_sh g5 = mq_sh h := V5.2.2.1
  have hr16 : mq_R g5 a = mq_R h a := V5.2.2.2.1 a hr1
  apply mq_go 60 [98]
  refine gq_i (by rw [hs6, s0]; rfl) ?_
  refine oq_s (by rw [hr16]; exact r6) ?_
  refine gq_i (by rw [hs6, s6, b6]; rfl) ?_
  obtain ⟨g6, e6⟩ : ∃ H, H = mq_cpI g5 23 (a + 6) 0 0 60 := ⟨_, rfl⟩
  show mq_At mq_G (mq_tT lL) 25 98 [some (.ref a), some (.retAddr 17)] [] (mq_cpI g5 23 (a + 6) 0 0 60) Q
  rw [← e6]
  have V6 := V5.cp (s := 23) (d := a + 6) (n := 60) (x_nd_c (by omega) (x_nd_c (by omega) (x_nd_c (by omega) (x_nd_c (by omega) (x_nd_c (by omega) (x_nd_c (by omega) (H1 _ (by omega) (by omega)))))))) (x_nd_c (by omega) (x_nd_c (by omega) (x_nd_c (by omega) (x_nd_c (by omega) (x_nd_c (by omega) (x_nd_c (by omega) (H2 _ (by omega) (by omega))))))))
  rw [← e6] at V6
  have q6 : mq_R g6 = mq_R g := by rw [e6]; exact q5
  clear e6
  have hs7 : mq_sh g6 = mq_sh h := V6.2.2.1
  have hr17 : mq_R g6 a = mq_R h a := V6.2.2.2.1 a hr1
  apply mq_go 60 [113]
  refine gq_i (by rw [hs7, s0]; rfl) ?_
  refine oq_s (by rw [hr17]; exact r7) ?_
  refine gq_i (by rw [hs7, s7, b7]; rfl) ?_
  obtain ⟨g7, e7⟩ : ∃ H, H = mq_cpI g6 24 (a + 7) 0 0 60 := ⟨_, rfl⟩
  show mq_At mq_G (mq_tT lL) 25 113 [some (.ref a), some (.retAddr 17)] [] (mq_cpI g6 24 (a + 7) 0 0 60) Q
  rw [← e7]
  have V7 := V6.cp (s := 24) (d := a + 7) (n := 60) (x_nd_c (by omega) (x_nd_c (by omega) (x_nd_c (by omega) (x_nd_c (by omega) (x_nd_c (by omega) (x_nd_c (by omega) (x_nd_c (by omega) (H1 _ (by omega) (by omega))))))))) (x_nd_c (by omega) (x_nd_c (by omega) (x_nd_c (by omega) (x_nd_c (by omega) (x_nd_c (by omega) (x_nd_c (by omega) (x_nd_c (by omega) (H2 _ (by omega) (by omega)))))))))
  rw [← e7] at V7
  have q7 : mq_R g7 = mq_R g := by rw [e7]; exact q6
  clear e7
  have hs8 : mq_sh g7 = mq_sh h := V7.2.2.1
  have hr18 : mq_R g7 a = mq_R h a := V7.2.2.2.1 a hr1
  apply mq_go 60 [128]
  refine gq_i (by rw [hs8, s0]; rfl) ?_
  refine oq_s (by rw [hr18]; exact r8) ?_
  refine gq_i (by rw [hs8, s8, b8]; rfl) ?_
  obtain ⟨g8, e8⟩ : ∃ H, H = mq_cpI g7 25 (a + 8) 0 0 60 := ⟨_, rfl⟩
  show mq_At mq_G (mq_tT lL) 25 128 [some (.ref a), some (.retAddr 17)] [] (mq_cpI g7 25 (a + 8) 0 0 60) Q
  rw [← e8]
  have V8 := V7.cp (s := 25) (d := a + 8) (n := 60) (x_nd_c (by omega) (x_nd_c (by omega) (x_nd_c (by omega) (x_nd_c (by omega) (x_nd_c (by omega) (x_nd_c (by omega) (x_nd_c (by omega) (x_nd_c (by omega) (H1 _ (by omega) (by omega)))))))))) (x_nd_c (by omega) (x_nd_c (by omega) (x_nd_c (by omega) (x_nd_c (by omega) (x_nd_c (by omega) (x_nd_c (by omega) (x_nd_c (by omega) (x_nd_c (by omega) (H2 _ (by omega) (by omega))))))))))
  rw [← e8] at V8
  have q8 : mq_R g8 = mq_R g := by rw [e8]; exact q7
  clear e8
  have hs9 : mq_sh g8 = mq_sh h := V8.2.2.1
  have hr19 : mq_R g8 a = mq_R h a := V8.2.2.2.1 a hr1
  apply mq_go 60 [144]
  refine gq_i (by rw [hs9, s0]; rfl) ?_
  refine oq_s (by rw [hr19]; exact r9) ?_
  refine gq_i (by rw [hs9, s9, b9]; rfl) ?_
  obtain ⟨g9, e9⟩ : ∃ H, H = mq_cpI g8 26 (a + 9) 0 0 720 := ⟨_, rfl⟩
  show mq_At mq_G (mq_tT lL) 25 144 [some (.ref a), some (.retAddr 17)] [] (mq_cpI g8 26 (a + 9) 0 0 720) Q
  rw [← e9]
  have V9 := V8.cp (s := 26) (d := a + 9) (n := 720) (x_nd_c (by omega) (x_nd_c (by omega) (x_nd_c (by omega) (x_nd_c (by omega) (x_nd_c (by omega) (x_nd_c (by omega) (x_nd_c (by omega) (x_nd_c (by omega) (x_nd_c (by omega) (H1 _ (by omega) (by omega))))))))))) (x_nd_c (by omega) (x_nd_c (by omega) (x_nd_c (by omega) (x_nd_c (by omega) (x_nd_c (by omega) (x_nd_c (by omega) (x_nd_c (by omega) (x_nd_c (by omega) (x_nd_c (by omega) (H2 _ (by omega) (by omega)))))))))))
  rw [← e9] at V9
  have q9 : mq_R g9 = mq_R g := by rw [e9]; exact q8
  clear e9
  have hs10 : mq_sh g9 = mq_sh h := V9.2.2.1
  have hr20 : mq_R g9 a = mq_R h a := V9.2.2.2.1 a hr1
  apply mq_go 60 [160]
  refine gq_i (by rw [hs10, s0]; rfl) ?_
  refine oq_s (by rw [hr20]; exact r10) ?_
  refine gq_i (by rw [hs10, s10, b10]; rfl) ?_
  obtain ⟨g10, e10⟩ : ∃ H, H = mq_cpI g9 27 (a + 10) 0 0 720 := ⟨_, rfl⟩
  show mq_At mq_G (mq_tT lL) 25 160 [some (.ref a), some (.retAddr 17)] [] (mq_cpI g9 27 (a + 10) 0 0 720) Q
  rw [← e10]
  have V10 := V9.cp (s := 27) (d := a + 10) (n := 720) (x_nd_c (by omega) (x_nd_c (by omega) (x_nd_c (by omega) (x_nd_c (by omega) (x_nd_c (by omega) (x_nd_c (by omega) (x_nd_c (by omega) (x_nd_c (by omega) (x_nd_c (by omega) (x_nd_c (by omega) (H1 _ (by omega) (by omega)))))))))))) (x_nd_c (by omega) (x_nd_c (by omega) (x_nd_c (by omega) (x_nd_c (by omega) (x_nd_c (by omega) (x_nd_c (by omega) (x_nd_c (by omega) (x_nd_c (by omega) (x_nd_c (by omega) (x_nd_c (by omega) (H2 _ (by omega) (by omega))))))))))))
  rw [← e10] at V10
  have q10 : mq_R g10 = mq_R g := by rw [e10]; exact q9
  clear e10
  have hs11 : mq_sh g10 = mq_sh h := V10.2.2.1
  have hr21 : mq_R g10 a = mq_R h a := V10.2.2.2.1 a hr1
  apply mq_go 60 [176]
  refine gq_i (by rw [hs11, s0]; rfl) ?_
  refine oq_s (by rw [hr21]; exact r11) ?_
  refine gq_i (by rw [hs11, s11, b11]; rfl) ?_
  obtain ⟨g11, e11⟩ : ∃ H, H = mq_cpI g10 28 (a + 11) 0 0 720 := ⟨_, rfl⟩
  show mq_At mq_G (mq_tT lL) 25 176 [some (.ref a), some (.retAddr 17)] [] (mq_cpI g10 28 (a + 11) 0 0 720) Q
  rw [← e11]
  have V11 := V10.cp (s := 28) (d := a + 11) (n := 720) (x_nd_c (by omega) (x_nd_c (by omega) (x_nd_c (by omega) (x_nd_c (by omega) (x_nd_c (by omega) (x_nd_c (by omega) (x_nd_c (by omega) (x_nd_c (by omega) (x_nd_c (by omega) (x_nd_c (by omega) (x_nd_c (by omega) (H1 _ (by omega) (by omega))))))))))))) (x_nd_c (by omega) (x_nd_c (by omega) (x_nd_c (by omega) (x_nd_c (by omega) (x_nd_c (by omega) (x_nd_c (by omega) (x_nd_c (by omega) (x_nd_c (by omega) (x_nd_c (by omega) (x_nd_c (by omega) (x_nd_c (by omega) (H2 _ (by omega) (by omega)))))))))))))
  rw [← e11] at V11
  have q11 : mq_R g11 = mq_R g := by rw [e11]; exact q10
  clear e11
  have hs12 : mq_sh g11 = mq_sh h := V11.2.2.1
  have hr22 : mq_R g11 a = mq_R h a := V11.2.2.2.1 a hr1
  apply mq_go 60 [192]
  refine gq_i (by rw [hs12, s0]; rfl) ?_
  refine oq_s (by rw [hr22]; exact r12) ?_
  refine gq_i (by rw [hs12, s12, b12]; rfl) ?_
  obtain ⟨g12, e12⟩ : ∃ H, H = mq_cpI g11 29 (a + 12) 0 0 720 := ⟨_, rfl⟩
  show mq_At mq_G (mq_tT lL) 25 192 [some (.ref a), some (.retAddr 17)] [] (mq_cpI g11 29 (a + 12) 0 0 720) Q
  rw [← e12]
  have V12 := V11.cp (s := 29) (d := a + 12) (n := 720) (x_nd_c (by omega) (x_nd_c (by omega) (x_nd_c (by omega) (x_nd_c (by omega) (x_nd_c (by omega) (x_nd_c (by omega) (x_nd_c (by omega) (x_nd_c (by omega) (x_nd_c (by omega) (x_nd_c (by omega) (x_nd_c (by omega) (x_nd_c (by omega) (H1 _ (by omega) (by omega)))))))))))))) (x_nd_c (by omega) (x_nd_c (by omega) (x_nd_c (by omega) (x_nd_c (by omega) (x_nd_c (by omega) (x_nd_c (by omega) (x_nd_c (by omega) (x_nd_c (by omega) (x_nd_c (by omega) (x_nd_c (by omega) (x_nd_c (by omega) (x_nd_c (by omega) (H2 _ (by omega) (by omega))))))))))))))
  rw [← e12] at V12
  have q12 : mq_R g12 = mq_R g := by rw [e12]; exact q11
  clear e12
  apply mq_go 20 []
  exact hq _ V12 q12
theorem d_cpC2 {a : Nat} {rr : Nat} (hr1 : ¬ a = rr) {l0 : List (Nat × Nat × Nat × Nat)} (V : x_cv rr l0 h g) (k : ok_C h a) (h100 : 100 ≤ a) (H1 : ∀ c, 17 ≤ c → c ≤ 29 → x_nd c l0) (H2 : ∀ c, a ≤ c → c ≤ a + 12 → x_nd c l0) (hq : ∀ h', x_cv rr ([(a + 12, 29, 0, 720), (a + 11, 28, 0, 720), (a + 10, 27, 0, 720), (a + 9, 26, 0, 720), (a + 8, 25, 0, 60), (a + 7, 24, 0, 60), (a + 6, 23, 0, 60), (a + 5, 22, 0, 60), (a + 4, 21, 0, 60), (a + 3, 20, 0, 60), (a + 2, 19, 0, 60), (a + 1, 18, 0, 60), (a, 17, 0, 0 + 1)] ++ l0) h h' → mq_R h' = mq_R g → Q none h') : mq_Call mq_G (mq_tT lL) 25 [.retAddr 17, .ref a] g Q := by
  have tn := tT_none (L := lL) h100
  obtain ⟨s0, r1, s1, r2, s2, r3, s3, r4, s4, r5, s5, r6, s6, r7, s7, r8, s8, r9, s9, r10, s10, r11, s11, r12, s12⟩ := k
  have b1 : Nat.beq (a + 1) 18 = false := by
    cases e : Nat.beq (a + 1) 18 with
    | false => rfl
    | true => have := Nat.eq_of_beq_eq_true e; omega
  have b2 : Nat.beq (a + 2) 19 = false := by
    cases e : Nat.beq (a + 2) 19 with
    | false => rfl
    | true => have := Nat.eq_of_beq_eq_true e; omega
  have b3 : Nat.beq (a + 3) 20 = false := by
    cases e : Nat.beq (a + 3) 20 with
    | false => rfl
    | true => have := Nat.eq_of_beq_eq_true e; omega
  have b4 : Nat.beq (a + 4) 21 = false := by
    cases e : Nat.beq (a + 4) 21 with
    | false => rfl
    | true => have := Nat.eq_of_beq_eq_true e; omega
  have b5 : Nat.beq (a + 5) 22 = false := by
    cases e : Nat.beq (a + 5) 22 with
    | false => rfl
    | true => have := Nat.eq_of_beq_eq_true e; omega
  have b6 : Nat.beq (a + 6) 23 = false := by
    cases e : Nat.beq (a + 6) 23 with
    | false => rfl
    | true => have := Nat.eq_of_beq_eq_true e; omega
  have b7 : Nat.beq (a + 7) 24 = false := by
    cases e : Nat.beq (a + 7) 24 with
    | false => rfl
    | true => have := Nat.eq_of_beq_eq_true e; omega
  have b8 : Nat.beq (a + 8) 25 = false := by
    cases e : Nat.beq (a + 8) 25 with
    | false => rfl
    | true => have := Nat.eq_of_beq_eq_true e; omega
  have b9 : Nat.beq (a + 9) 26 = false := by
    cases e : Nat.beq (a + 9) 26 with
    | false => rfl
    | true => have := Nat.eq_of_beq_eq_true e; omega
  have b10 : Nat.beq (a + 10) 27 = false := by
    cases e : Nat.beq (a + 10) 27 with
    | false => rfl
    | true => have := Nat.eq_of_beq_eq_true e; omega
  have b11 : Nat.beq (a + 11) 28 = false := by
    cases e : Nat.beq (a + 11) 28 with
    | false => rfl
    | true => have := Nat.eq_of_beq_eq_true e; omega
  have b12 : Nat.beq (a + 12) 29 = false := by
    cases e : Nat.beq (a + 12) 29 with
    | false => rfl
    | true => have := Nat.eq_of_beq_eq_true e; omega
  have hs0 : mq_sh g = mq_sh h := V.2.2.1
  have hr10 : mq_R g a = mq_R h a := V.2.2.2.1 a hr1
  apply mq_enter 60 [8]
  refine gq_i (by rw [hs0, s0]; rfl) ?_
  obtain ⟨g0, e0⟩ : ∃ H, H = mq_setI g 17 0 (mq_I g a 0) := ⟨_, rfl⟩
  show mq_At mq_G (mq_tT lL) 25 8 [some (.retAddr 17), some (.ref a)] [] (mq_setI g 17 0 (mq_I g a 0)) Q
  rw [← e0]
  have V0 := V.fl (s := a) (d := 17) (j := 0) (H2 _ (by omega) (by omega)) (H1 _ (by omega) (by omega))
  rw [← e0] at V0
  have q0 : mq_R g0 = mq_R g := by rw [e0]; exact rfl
  clear e0
  have hs1 : mq_sh g0 = mq_sh h := V0.2.2.1
  have hr11 : mq_R g0 a = mq_R h a := V0.2.2.2.1 a hr1
  apply mq_go 60 [23]
  refine gq_i (by rw [hs1, s0]; rfl) ?_
  refine oq_s (by rw [hr11]; exact r1) ?_
  refine gq_i (by rw [hs1, s1, b1]; rfl) ?_
  obtain ⟨g1, e1⟩ : ∃ H, H = mq_cpI g0 (a + 1) 18 0 0 60 := ⟨_, rfl⟩
  show mq_At mq_G (mq_tT lL) 25 23 [some (.retAddr 17), some (.ref a)] [] (mq_cpI g0 (a + 1) 18 0 0 60) Q
  rw [← e1]
  have V1 := V0.cp (s := a + 1) (d := 18) (n := 60) (x_nd_c (by omega) (H2 _ (by omega) (by omega))) (x_nd_c (by omega) (H1 _ (by omega) (by omega)))
  rw [← e1] at V1
  have q1 : mq_R g1 = mq_R g := by rw [e1]; exact q0
  clear e1
  have hs2 : mq_sh g1 = mq_sh h := V1.2.2.1
  have hr12 : mq_R g1 a = mq_R h a := V1.2.2.2.1 a hr1
  apply mq_go 60 [38]
  refine gq_i (by rw [hs2, s0]; rfl) ?_
  refine oq_s (by rw [hr12]; exact r2) ?_
  refine gq_i (by rw [hs2, s2, b2]; rfl) ?_
  obtain ⟨g2, e2⟩ : ∃ H, H = mq_cpI g1 (a + 2) 19 0 0 60 := ⟨_, rfl⟩
  show mq_At mq_G (mq_tT lL) 25 38 [some (.retAddr 17), some (.ref a)] [] (mq_cpI g1 (a + 2) 19 0 0 60) Q
  rw [← e2]
  have V2 := V1.cp (s := a + 2) (d := 19) (n := 60) (x_nd_c (by omega) (x_nd_c (by omega) (H2 _ (by omega) (by omega)))) (x_nd_c (by omega) (x_nd_c (by omega) (H1 _ (by omega) (by omega))))
  rw [← e2] at V2
  have q2 : mq_R g2 = mq_R g := by rw [e2]; exact q1
  clear e2
  have hs3 : mq_sh g2 = mq_sh h := V2.2.2.1
  have hr13 : mq_R g2 a = mq_R h a := V2.2.2.2.1 a hr1
  apply mq_go 60 [53]
  refine gq_i (by rw [hs3, s0]; rfl) ?_
  refine oq_s (by rw [hr13]; exact r3) ?_
  refine gq_i (by rw [hs3, s3, b3]; rfl) ?_
  obtain ⟨g3, e3⟩ : ∃ H, H = mq_cpI g2 (a + 3) 20 0 0 60 := ⟨_, rfl⟩
  show mq_At mq_G (mq_tT lL) 25 53 [some (.retAddr 17), some (.ref a)] [] (mq_cpI g2 (a + 3) 20 0 0 60) Q
  rw [← e3]
  have V3 := V2.cp (s := a + 3) (d := 20) (n := 60) (x_nd_c (by omega) (x_nd_c (by omega) (x_nd_c (by omega) (H2 _ (by omega) (by omega))))) (x_nd_c (by omega) (x_nd_c (by omega) (x_nd_c (by omega) (H1 _ (by omega) (by omega)))))
  rw [← e3] at V3
  have q3 : mq_R g3 = mq_R g := by rw [e3]; exact q2
  clear e3
  have hs4 : mq_sh g3 = mq_sh h := V3.2.2.1
  have hr14 : mq_R g3 a = mq_R h a := V3.2.2.2.1 a hr1
  apply mq_go 60 [68]
  refine gq_i (by rw [hs4, s0]; rfl) ?_
  refine oq_s (by rw [hr14]; exact r4) ?_
  refine gq_i (by rw [hs4, s4, b4]; rfl) ?_
  obtain ⟨g4, e4⟩ : ∃ H, H = mq_cpI g3 (a + 4) 21 0 0 60 := ⟨_, rfl⟩
  show mq_At mq_G (mq_tT lL) 25 68 [some (.retAddr 17), some (.ref a)] [] (mq_cpI g3 (a + 4) 21 0 0 60) Q
  rw [← e4]
  have V4 := V3.cp (s := a + 4) (d := 21) (n := 60) (x_nd_c (by omega) (x_nd_c (by omega) (x_nd_c (by omega) (x_nd_c (by omega) (H2 _ (by omega) (by omega)))))) (x_nd_c (by omega) (x_nd_c (by omega) (x_nd_c (by omega) (x_nd_c (by omega) (H1 _ (by omega) (by omega))))))
  rw [← e4] at V4
  have q4 : mq_R g4 = mq_R g := by rw [e4]; exact q3
  clear e4
  have hs5 : mq_sh g4 = mq_sh h := V4.2.2.1
  have hr15 : mq_R g4 a = mq_R h a := V4.2.2.2.1 a hr1
  apply mq_go 60 [83]
  refine gq_i (by rw [hs5, s0]; rfl) ?_
  refine oq_s (by rw [hr15]; exact r5) ?_
  refine gq_i (by rw [hs5, s5, b5]; rfl) ?_
  obtain ⟨g5, e5⟩ : ∃ H, H = mq_cpI g4 (a + 5) 22 0 0 60 := ⟨_, rfl⟩
  show mq_At mq_G (mq_tT lL) 25 83 [some (.retAddr 17), some (.ref a)] [] (mq_cpI g4 (a + 5) 22 0 0 60) Q
  rw [← e5]
  have V5 := V4.cp (s := a + 5) (d := 22) (n := 60) (x_nd_c (by omega) (x_nd_c (by omega) (x_nd_c (by omega) (x_nd_c (by omega) (x_nd_c (by omega) (H2 _ (by omega) (by omega))))))) (x_nd_c (by omega) (x_nd_c (by omega) (x_nd_c (by omega) (x_nd_c (by omega) (x_nd_c (by omega) (H1 _ (by omega) (by omega)))))))
  rw [← e5] at V5
  have q5 : mq_R g5 = mq_R g := by rw [e5]; exact q4
  clear e5
  have hs6 : mq_sh g5 = mq_sh h := V5.2.2.1
  have hr16 : mq_R g5 a = mq_R h a := V5.2.2.2.1 a hr1
  apply mq_go 60 [98]
  refine gq_i (by rw [hs6, s0]; rfl) ?_
  refine oq_s (by rw [hr16]; exact r6) ?_
  refine gq_i (by rw [hs6, s6, b6]; rfl) ?_
  obtain ⟨g6, e6⟩ : ∃ H, H = mq_cpI g5 (a + 6) 23 0 0 60 := ⟨_, rfl⟩
  show mq_At mq_G (mq_tT lL) 25 98 [some (.retAddr 17), some (.ref a)] [] (mq_cpI g5 (a + 6) 23 0 0 60) Q
  rw [← e6]
  have V6 := V5.cp (s := a + 6) (d := 23) (n := 60) (x_nd_c (by omega) (x_nd_c (by omega) (x_nd_c (by omega) (x_nd_c (by omega) (x_nd_c (by omega) (x_nd_c (by omega) (H2 _ (by omega) (by omega)))))))) (x_nd_c (by omega) (x_nd_c (by omega) (x_nd_c (by omega) (x_nd_c (by omega) (x_nd_c (by omega) (x_nd_c (by omega) (H1 _ (by omega) (by omega))))))))
  rw [← e6] at V6
  have q6 : mq_R g6 = mq_R g := by rw [e6]; exact q5
  clear e6
  have hs7 : mq_sh g6 = mq_sh h := V6.2.2.1
  have hr17 : mq_R g6 a = mq_R h a := V6.2.2.2.1 a hr1
  apply mq_go 60 [113]
  refine gq_i (by rw [hs7, s0]; rfl) ?_
  refine oq_s (by rw [hr17]; exact r7) ?_
  refine gq_i (by rw [hs7, s7, b7]; rfl) ?_
  obtain ⟨g7, e7⟩ : ∃ H, H = mq_cpI g6 (a + 7) 24 0 0 60 := ⟨_, rfl⟩
  show mq_At mq_G (mq_tT lL) 25 113 [some (.retAddr 17), some (.ref a)] [] (mq_cpI g6 (a + 7) 24 0 0 60) Q
  rw [← e7]
  have V7 := V6.cp (s := a + 7) (d := 24) (n := 60) (x_nd_c (by omega) (x_nd_c (by omega) (x_nd_c (by omega) (x_nd_c (by omega) (x_nd_c (by omega) (x_nd_c (by omega) (x_nd_c (by omega) (H2 _ (by omega) (by omega))))))))) (x_nd_c (by omega) (x_nd_c (by omega) (x_nd_c (by omega) (x_nd_c (by omega) (x_nd_c (by omega) (x_nd_c (by omega) (x_nd_c (by omega) (H1 _ (by omega) (by omega)))))))))
  rw [← e7] at V7
  have q7 : mq_R g7 = mq_R g := by rw [e7]; exact q6
  clear e7
  have hs8 : mq_sh g7 = mq_sh h := V7.2.2.1
  have hr18 : mq_R g7 a = mq_R h a := V7.2.2.2.1 a hr1
  apply mq_go 60 [128]
  refine gq_i (by rw [hs8, s0]; rfl) ?_
  refine oq_s (by rw [hr18]; exact r8) ?_
  refine gq_i (by rw [hs8, s8, b8]; rfl) ?_
  obtain ⟨g8, e8⟩ : ∃ H, H = mq_cpI g7 (a + 8) 25 0 0 60 := ⟨_, rfl⟩
  show mq_At mq_G (mq_tT lL) 25 128 [some (.retAddr 17), some (.ref a)] [] (mq_cpI g7 (a + 8) 25 0 0 60) Q
  rw [← e8]
  have V8 := V7.cp (s := a + 8) (d := 25) (n := 60) (x_nd_c (by omega) (x_nd_c (by omega) (x_nd_c (by omega) (x_nd_c (by omega) (x_nd_c (by omega) (x_nd_c (by omega) (x_nd_c (by omega) (x_nd_c (by omega) (H2 _ (by omega) (by omega)))))))))) (x_nd_c (by omega) (x_nd_c (by omega) (x_nd_c (by omega) (x_nd_c (by omega) (x_nd_c (by omega) (x_nd_c (by omega) (x_nd_c (by omega) (x_nd_c (by omega) (H1 _ (by omega) (by omega))))))))))
  rw [← e8] at V8
  have q8 : mq_R g8 = mq_R g := by rw [e8]; exact q7
  clear e8
  have hs9 : mq_sh g8 = mq_sh h := V8.2.2.1
  have hr19 : mq_R g8 a = mq_R h a := V8.2.2.2.1 a hr1
  apply mq_go 60 [144]
  refine gq_i (by rw [hs9, s0]; rfl) ?_
  refine oq_s (by rw [hr19]; exact r9) ?_
  refine gq_i (by rw [hs9, s9, b9]; rfl) ?_
  obtain ⟨g9, e9⟩ : ∃ H, H = mq_cpI g8 (a + 9) 26 0 0 720 := ⟨_, rfl⟩
  show mq_At mq_G (mq_tT lL) 25 144 [some (.retAddr 17), some (.ref a)] [] (mq_cpI g8 (a + 9) 26 0 0 720) Q
  rw [← e9]
  have V9 := V8.cp (s := a + 9) (d := 26) (n := 720) (x_nd_c (by omega) (x_nd_c (by omega) (x_nd_c (by omega) (x_nd_c (by omega) (x_nd_c (by omega) (x_nd_c (by omega) (x_nd_c (by omega) (x_nd_c (by omega) (x_nd_c (by omega) (H2 _ (by omega) (by omega))))))))))) (x_nd_c (by omega) (x_nd_c (by omega) (x_nd_c (by omega) (x_nd_c (by omega) (x_nd_c (by omega) (x_nd_c (by omega) (x_nd_c (by omega) (x_nd_c (by omega) (x_nd_c (by omega) (H1 _ (by omega) (by omega)))))))))))
  rw [← e9] at V9
  have q9 : mq_R g9 = mq_R g := by rw [e9]; exact q8
  clear e9
  have hs10 : mq_sh g9 = mq_sh h := V9.2.2.1
  have hr20 : mq_R g9 a = mq_R h a := V9.2.2.2.1 a hr1
  apply mq_go 60 [160]
  refine gq_i (by rw [hs10, s0]; rfl) ?_
  refine oq_s (by rw [hr20]; exact r10) ?_
  refine gq_i (by rw [hs10, s10, b10]; rfl) ?_
  obtain ⟨g10, e10⟩ : ∃ H, H = mq_cpI g9 (a + 10) 27 0 0 720 := ⟨_, rfl⟩
  show mq_At mq_G (mq_tT lL) 25 160 [some (.retAddr 17), some (.ref a)] [] (mq_cpI g9 (a + 10) 27 0 0 720) Q
  rw [← e10]
  have V10 := V9.cp (s := a + 10) (d := 27) (n := 720) (x_nd_c (by omega) (x_nd_c (by omega) (x_nd_c (by omega) (x_nd_c (by omega) (x_nd_c (by omega) (x_nd_c (by omega) (x_nd_c (by omega) (x_nd_c (by omega) (x_nd_c (by omega) (x_nd_c (by omega) (H2 _ (by omega) (by omega)))))))))))) (x_nd_c (by omega) (x_nd_c (by omega) (x_nd_c (by omega) (x_nd_c (by omega) (x_nd_c (by omega) (x_nd_c (by omega) (x_nd_c (by omega) (x_nd_c (by omega) (x_nd_c (by omega) (x_nd_c (by omega) (H1 _ (by omega) (by omega))))))))))))
  rw [← e10] at V10
  have q10 : mq_R g10 = mq_R g := by rw [e10]; exact q9
  clear e10
  have hs11 : mq_sh g10 = mq_sh h := V10.2.2.1
  have hr21 : mq_R g10 a = mq_R h a := V10.2.2.2.1 a hr1
  apply mq_go 60 [176]
  refine gq_i (by rw [hs11, s0]; rfl) ?_
  refine oq_s (by rw [hr21]; exact r11) ?_
  refine gq_i (by rw [hs11, s11, b11]; rfl) ?_
  obtain ⟨g11, e11⟩ : ∃ H, H = mq_cpI g10 (a + 11) 28 0 0 720 := ⟨_, rfl⟩
  show mq_At mq_G (mq_tT lL) 25 176 [some (.retAddr 17), some (.ref a)] [] (mq_cpI g10 (a + 11) 28 0 0 720) Q
  rw [← e11]
  have V11 := V10.cp (s := a + 11) (d := 28) (n := 720) (x_nd_c (by omega) (x_nd_c (by omega) (x_nd_c (by omega) (x_nd_c (by omega) (x_nd_c (by omega) (x_nd_c (by omega) (x_nd_c (by omega) (x_nd_c (by omega) (x_nd_c (by omega) (x_nd_c (by omega) (x_nd_c (by omega) (H2 _ (by omega) (by omega))))))))))))) (x_nd_c (by omega) (x_nd_c (by omega) (x_nd_c (by omega) (x_nd_c (by omega) (x_nd_c (by omega) (x_nd_c (by omega) (x_nd_c (by omega) (x_nd_c (by omega) (x_nd_c (by omega) (x_nd_c (by omega) (x_nd_c (by omega) (H1 _ (by omega) (by omega)))))))))))))
  rw [← e11] at V11
  have q11 : mq_R g11 = mq_R g := by rw [e11]; exact q10
  clear e11
  have hs12 : mq_sh g11 = mq_sh h := V11.2.2.1
  have hr22 : mq_R g11 a = mq_R h a := V11.2.2.2.1 a hr1
  apply mq_go 60 [192]
  refine gq_i (by rw [hs12, s0]; rfl) ?_
  refine oq_s (by rw [hr22]; exact r12) ?_
  refine gq_i (by rw [hs12, s12, b12]; rfl) ?_
  obtain ⟨g12, e12⟩ : ∃ H, H = mq_cpI g11 (a + 12) 29 0 0 720 := ⟨_, rfl⟩
  show mq_At mq_G (mq_tT lL) 25 192 [some (.retAddr 17), some (.ref a)] [] (mq_cpI g11 (a + 12) 29 0 0 720) Q
  rw [← e12]
  have V12 := V11.cp (s := a + 12) (d := 29) (n := 720) (x_nd_c (by omega) (x_nd_c (by omega) (x_nd_c (by omega) (x_nd_c (by omega) (x_nd_c (by omega) (x_nd_c (by omega) (x_nd_c (by omega) (x_nd_c (by omega) (x_nd_c (by omega) (x_nd_c (by omega) (x_nd_c (by omega) (x_nd_c (by omega) (H2 _ (by omega) (by omega)))))))))))))) (x_nd_c (by omega) (x_nd_c (by omega) (x_nd_c (by omega) (x_nd_c (by omega) (x_nd_c (by omega) (x_nd_c (by omega) (x_nd_c (by omega) (x_nd_c (by omega) (x_nd_c (by omega) (x_nd_c (by omega) (x_nd_c (by omega) (x_nd_c (by omega) (H1 _ (by omega) (by omega))))))))))))))
  rw [← e12] at V12
  have q12 : mq_R g12 = mq_R g := by rw [e12]; exact q11
  clear e12
  apply mq_go 20 []
  exact hq _ V12 q12
theorem d_cpP1 {a : Nat} {l0 : List (Nat × Nat × Nat × Nat)} (V : x_cv (a + 7) l0 h g) (k : ok_P h a) (h100 : 100 ≤ a) (H1 : ∀ c, 6 ≤ c → c ≤ 13 → x_nd c l0) (H2 : ∀ c, a ≤ c → c ≤ a + 7 → x_nd c l0) (hg : ∀ g, x_cv (a + 7) ([(12, a + 6, 0, 24), (11, a + 5, 0, 24), (10, a + 4, 0, 24), (9, a + 3, 0, 6), (8, a + 2, 0, 6), (6, a, 1, 1 + 1), (7, a + 1, 0, 20)] ++ l0) h g → mq_gE g 13 0 8 6 = true) (hq : ∀ h', x_cv (a + 7) ([(12, a + 6, 0, 24), (11, a + 5, 0, 24), (10, a + 4, 0, 24), (9, a + 3, 0, 6), (8, a + 2, 0, 6), (6, a, 1, 1 + 1), (7, a + 1, 0, 20)] ++ l0) h h' → (∀ i, i < 8 → mq_R h' (a + 7) i = mq_R h 13 i) → Q none h') : mq_Call mq_G (mq_tT lL) 60 [.ref a, .retAddr 6] g Q := by
  have tn := tT_none (L := lL) h100
  obtain ⟨s0, r1, s1, r2, s2, r3, s3, r4, s4, r5, s5, r6, s6, r7, s7⟩ := k
  have b1 := beq_far (show 7 < a + 1 by omega)
  have b2 := beq_far (show 8 < a + 2 by omega)
  have b3 := beq_far (show 9 < a + 3 by omega)
  have b4 := beq_far (show 10 < a + 4 by omega)
  have b5 := beq_far (show 11 < a + 5 by omega)
  have b6 := beq_far (show 12 < a + 6 by omega)
  have b7 := beq_far (show 13 < a + 7 by omega)
  have hs0 : mq_sh g = mq_sh h := V.2.2.1
  have hr10 : mq_R g a = mq_R h a := V.2.2.2.1 a (by omega)
  apply mq_enter 60 [15]
  refine gq_i (by rw [hs0, s0]; rfl) ?_
  refine oq_s (by rw [hr10]; exact r1) ?_
  refine gq_i (by rw [hs0, s1, b1]; rfl) ?_
  obtain ⟨g0, e0⟩ : ∃ H, H = mq_cpI g 7 (a + 1) 0 0 20 := ⟨_, rfl⟩
  show mq_At mq_G (mq_tT lL) 60 15 [some (.ref a), some (.retAddr 6)] [] (mq_cpI g 7 (a + 1) 0 0 20) Q
  rw [← e0]
  have V0 := V.cp (s := 7) (d := a + 1) (n := 20) (H1 _ (by omega) (by omega)) (H2 _ (by omega) (by omega))
  rw [← e0] at V0
  clear e0
  have hs1 : mq_sh g0 = mq_sh h := V0.2.2.1
  have hr11 : mq_R g0 a = mq_R h a := V0.2.2.2.1 a (by omega)
  apply mq_go 60 [23]
  refine gq_i (by rw [hs1, s0]; rfl) ?_
  obtain ⟨g1, e1⟩ : ∃ H, H = mq_setI g0 a 1 (mq_I g0 6 1) := ⟨_, rfl⟩
  show mq_At mq_G (mq_tT lL) 60 23 [some (.ref a), some (.retAddr 6)] [] (mq_setI g0 a 1 (mq_I g0 6 1)) Q
  rw [← e1]
  have V1 := V0.fl (s := 6) (d := a) (j := 1) (x_nd_c (by omega) (H1 _ (by omega) (by omega))) (x_nd_c (by omega) (H2 _ (by omega) (by omega)))
  rw [← e1] at V1
  clear e1
  have hs2 : mq_sh g1 = mq_sh h := V1.2.2.1
  have hr12 : mq_R g1 a = mq_R h a := V1.2.2.2.1 a (by omega)
  apply mq_go 60 [38]
  refine gq_i (by rw [hs2, s0]; rfl) ?_
  refine oq_s (by rw [hr12]; exact r2) ?_
  refine gq_i (by rw [hs2, s2, b2]; rfl) ?_
  obtain ⟨g2, e2⟩ : ∃ H, H = mq_cpI g1 8 (a + 2) 0 0 6 := ⟨_, rfl⟩
  show mq_At mq_G (mq_tT lL) 60 38 [some (.ref a), some (.retAddr 6)] [] (mq_cpI g1 8 (a + 2) 0 0 6) Q
  rw [← e2]
  have V2 := V1.cp (s := 8) (d := a + 2) (n := 6) (x_nd_c (by omega) (x_nd_c (by omega) (H1 _ (by omega) (by omega)))) (x_nd_c (by omega) (x_nd_c (by omega) (H2 _ (by omega) (by omega))))
  rw [← e2] at V2
  clear e2
  have hs3 : mq_sh g2 = mq_sh h := V2.2.2.1
  have hr13 : mq_R g2 a = mq_R h a := V2.2.2.2.1 a (by omega)
  apply mq_go 60 [53]
  refine gq_i (by rw [hs3, s0]; rfl) ?_
  refine oq_s (by rw [hr13]; exact r3) ?_
  refine gq_i (by rw [hs3, s3, b3]; rfl) ?_
  obtain ⟨g3, e3⟩ : ∃ H, H = mq_cpI g2 9 (a + 3) 0 0 6 := ⟨_, rfl⟩
  show mq_At mq_G (mq_tT lL) 60 53 [some (.ref a), some (.retAddr 6)] [] (mq_cpI g2 9 (a + 3) 0 0 6) Q
  rw [← e3]
  have V3 := V2.cp (s := 9) (d := a + 3) (n := 6) (x_nd_c (by omega) (x_nd_c (by omega) (x_nd_c (by omega) (H1 _ (by omega) (by omega))))) (x_nd_c (by omega) (x_nd_c (by omega) (x_nd_c (by omega) (H2 _ (by omega) (by omega)))))
  rw [← e3] at V3
  clear e3
  have hs4 : mq_sh g3 = mq_sh h := V3.2.2.1
  have hr14 : mq_R g3 a = mq_R h a := V3.2.2.2.1 a (by omega)
  apply mq_go 60 [68]
  refine gq_i (by rw [hs4, s0]; rfl) ?_
  refine oq_s (by rw [hr14]; exact r4) ?_
  refine gq_i (by rw [hs4, s4, b4]; rfl) ?_
  obtain ⟨g4, e4⟩ : ∃ H, H = mq_cpI g3 10 (a + 4) 0 0 24 := ⟨_, rfl⟩
  show mq_At mq_G (mq_tT lL) 60 68 [some (.ref a), some (.retAddr 6)] [] (mq_cpI g3 10 (a + 4) 0 0 24) Q
  rw [← e4]
  have V4 := V3.cp (s := 10) (d := a + 4) (n := 24) (x_nd_c (by omega) (x_nd_c (by omega) (x_nd_c (by omega) (x_nd_c (by omega) (H1 _ (by omega) (by omega)))))) (x_nd_c (by omega) (x_nd_c (by omega) (x_nd_c (by omega) (x_nd_c (by omega) (H2 _ (by omega) (by omega))))))
  rw [← e4] at V4
  clear e4
  have hs5 : mq_sh g4 = mq_sh h := V4.2.2.1
  have hr15 : mq_R g4 a = mq_R h a := V4.2.2.2.1 a (by omega)
  apply mq_go 60 [83]
  refine gq_i (by rw [hs5, s0]; rfl) ?_
  refine oq_s (by rw [hr15]; exact r5) ?_
  refine gq_i (by rw [hs5, s5, b5]; rfl) ?_
  obtain ⟨g5, e5⟩ : ∃ H, H = mq_cpI g4 11 (a + 5) 0 0 24 := ⟨_, rfl⟩
  show mq_At mq_G (mq_tT lL) 60 83 [some (.ref a), some (.retAddr 6)] [] (mq_cpI g4 11 (a + 5) 0 0 24) Q
  rw [← e5]
  have V5 := V4.cp (s := 11) (d := a + 5) (n := 24) (x_nd_c (by omega) (x_nd_c (by omega) (x_nd_c (by omega) (x_nd_c (by omega) (x_nd_c (by omega) (H1 _ (by omega) (by omega))))))) (x_nd_c (by omega) (x_nd_c (by omega) (x_nd_c (by omega) (x_nd_c (by omega) (x_nd_c (by omega) (H2 _ (by omega) (by omega)))))))
  rw [← e5] at V5
  clear e5
  have hs6 : mq_sh g5 = mq_sh h := V5.2.2.1
  have hr16 : mq_R g5 a = mq_R h a := V5.2.2.2.1 a (by omega)
  apply mq_go 60 [98]
  refine gq_i (by rw [hs6, s0]; rfl) ?_
  refine oq_s (by rw [hr16]; exact r6) ?_
  refine gq_i (by rw [hs6, s6, b6]; rfl) ?_
  obtain ⟨g6, e6⟩ : ∃ H, H = mq_cpI g5 12 (a + 6) 0 0 24 := ⟨_, rfl⟩
  show mq_At mq_G (mq_tT lL) 60 98 [some (.ref a), some (.retAddr 6)] [] (mq_cpI g5 12 (a + 6) 0 0 24) Q
  rw [← e6]
  have V6 := V5.cp (s := 12) (d := a + 6) (n := 24) (x_nd_c (by omega) (x_nd_c (by omega) (x_nd_c (by omega) (x_nd_c (by omega) (x_nd_c (by omega) (x_nd_c (by omega) (H1 _ (by omega) (by omega)))))))) (x_nd_c (by omega) (x_nd_c (by omega) (x_nd_c (by omega) (x_nd_c (by omega) (x_nd_c (by omega) (x_nd_c (by omega) (H2 _ (by omega) (by omega))))))))
  rw [← e6] at V6
  clear e6
  have hs7 : mq_sh g6 = mq_sh h := V6.2.2.1
  have hr17 : mq_R g6 a = mq_R h a := V6.2.2.2.1 a (by omega)
  apply mq_go 60 [113]
  refine gq_i (by rw [hs7, s0]; rfl) ?_
  refine oq_s (by rw [hr17]; exact r7) ?_
  have hh := hg g6 V6
  refine gq_i (by rw [hs7, s7, b7]; show (true && (true && mq_gE g6 13 0 8 6)) = true; rw [hh]; rfl) ?_
  apply mq_go 20 []
  show Q none (mq_cpR g6 13 (a + 7) 0 0 8)
  have C := V6.cR (s := 13) (by omega)
  exact hq _ C.1 C.2
theorem d_cpP2 {a : Nat} {l0 : List (Nat × Nat × Nat × Nat)} (V : x_cv 13 l0 h g) (k : ok_P h a) (h100 : 100 ≤ a) (H1 : ∀ c, 6 ≤ c → c ≤ 13 → x_nd c l0) (H2 : ∀ c, a ≤ c → c ≤ a + 7 → x_nd c l0) (hg : ∀ g, x_cv 13 ([(a + 6, 12, 0, 24), (a + 5, 11, 0, 24), (a + 4, 10, 0, 24), (a + 3, 9, 0, 6), (a + 2, 8, 0, 6), (a, 6, 1, 1 + 1), (a + 1, 7, 0, 20)] ++ l0) h g → mq_gE g (a + 7) 0 8 6 = true) (hq : ∀ h', x_cv 13 ([(a + 6, 12, 0, 24), (a + 5, 11, 0, 24), (a + 4, 10, 0, 24), (a + 3, 9, 0, 6), (a + 2, 8, 0, 6), (a, 6, 1, 1 + 1), (a + 1, 7, 0, 20)] ++ l0) h h' → (∀ i, i < 8 → mq_R h' 13 i = mq_R h (a + 7) i) → Q none h') : mq_Call mq_G (mq_tT lL) 60 [.retAddr 6, .ref a] g Q := by
  have tn := tT_none (L := lL) h100
  obtain ⟨s0, r1, s1, r2, s2, r3, s3, r4, s4, r5, s5, r6, s6, r7, s7⟩ := k
  have b1 : Nat.beq (a + 1) 7 = false := by
    cases e : Nat.beq (a + 1) 7 with
    | false => rfl
    | true => have := Nat.eq_of_beq_eq_true e; omega
  have b2 : Nat.beq (a + 2) 8 = false := by
    cases e : Nat.beq (a + 2) 8 with
    | false => rfl
    | true => have := Nat.eq_of_beq_eq_true e; omega
  have b3 : Nat.beq (a + 3) 9 = false := by
    cases e : Nat.beq (a + 3) 9 with
    | false => rfl
    | true => have := Nat.eq_of_beq_eq_true e; omega
  have b4 : Nat.beq (a + 4) 10 = false := by
    cases e : Nat.beq (a + 4) 10 with
    | false => rfl
    | true => have := Nat.eq_of_beq_eq_true e; omega
  have b5 : Nat.beq (a + 5) 11 = false := by
    cases e : Nat.beq (a + 5) 11 with
    | false => rfl
    | true => have := Nat.eq_of_beq_eq_true e; omega
  have b6 : Nat.beq (a + 6) 12 = false := by
    cases e : Nat.beq (a + 6) 12 with
    | false => rfl
    | true => have := Nat.eq_of_beq_eq_true e; omega
  have b7 : Nat.beq (a + 7) 13 = false := by
    cases e : Nat.beq (a + 7) 13 with
    | false => rfl
    | true => have := Nat.eq_of_beq_eq_true e; omega
  have hs0 : mq_sh g = mq_sh h := V.2.2.1
  have hr10 : mq_R g a = mq_R h a := V.2.2.2.1 a (by omega)
  apply mq_enter 60 [15]
  refine gq_i (by rw [hs0, s0]; rfl) ?_
  refine oq_s (by rw [hr10]; exact r1) ?_
  refine gq_i (by rw [hs0, s1, b1]; rfl) ?_
  obtain ⟨g0, e0⟩ : ∃ H, H = mq_cpI g (a + 1) 7 0 0 20 := ⟨_, rfl⟩
  show mq_At mq_G (mq_tT lL) 60 15 [some (.retAddr 6), some (.ref a)] [] (mq_cpI g (a + 1) 7 0 0 20) Q
  rw [← e0]
  have V0 := V.cp (s := a + 1) (d := 7) (n := 20) (H2 _ (by omega) (by omega)) (H1 _ (by omega) (by omega))
  rw [← e0] at V0
  clear e0
  have hs1 : mq_sh g0 = mq_sh h := V0.2.2.1
  have hr11 : mq_R g0 a = mq_R h a := V0.2.2.2.1 a (by omega)
  apply mq_go 60 [23]
  refine gq_i (by rw [hs1, s0]; rfl) ?_
  obtain ⟨g1, e1⟩ : ∃ H, H = mq_setI g0 6 1 (mq_I g0 a 1) := ⟨_, rfl⟩
  show mq_At mq_G (mq_tT lL) 60 23 [some (.retAddr 6), some (.ref a)] [] (mq_setI g0 6 1 (mq_I g0 a 1)) Q
  rw [← e1]
  have V1 := V0.fl (s := a) (d := 6) (j := 1) (x_nd_c (by omega) (H2 _ (by omega) (by omega))) (x_nd_c (by omega) (H1 _ (by omega) (by omega)))
  rw [← e1] at V1
  clear e1
  have hs2 : mq_sh g1 = mq_sh h := V1.2.2.1
  have hr12 : mq_R g1 a = mq_R h a := V1.2.2.2.1 a (by omega)
  apply mq_go 60 [38]
  refine gq_i (by rw [hs2, s0]; rfl) ?_
  refine oq_s (by rw [hr12]; exact r2) ?_
  refine gq_i (by rw [hs2, s2, b2]; rfl) ?_
  obtain ⟨g2, e2⟩ : ∃ H, H = mq_cpI g1 (a + 2) 8 0 0 6 := ⟨_, rfl⟩
  show mq_At mq_G (mq_tT lL) 60 38 [some (.retAddr 6), some (.ref a)] [] (mq_cpI g1 (a + 2) 8 0 0 6) Q
  rw [← e2]
  have V2 := V1.cp (s := a + 2) (d := 8) (n := 6) (x_nd_c (by omega) (x_nd_c (by omega) (H2 _ (by omega) (by omega)))) (x_nd_c (by omega) (x_nd_c (by omega) (H1 _ (by omega) (by omega))))
  rw [← e2] at V2
  clear e2
  have hs3 : mq_sh g2 = mq_sh h := V2.2.2.1
  have hr13 : mq_R g2 a = mq_R h a := V2.2.2.2.1 a (by omega)
  apply mq_go 60 [53]
  refine gq_i (by rw [hs3, s0]; rfl) ?_
  refine oq_s (by rw [hr13]; exact r3) ?_
  refine gq_i (by rw [hs3, s3, b3]; rfl) ?_
  obtain ⟨g3, e3⟩ : ∃ H, H = mq_cpI g2 (a + 3) 9 0 0 6 := ⟨_, rfl⟩
  show mq_At mq_G (mq_tT lL) 60 53 [some (.retAddr 6), some (.ref a)] [] (mq_cpI g2 (a + 3) 9 0 0 6) Q
  rw [← e3]
  have V3 := V2.cp (s := a + 3) (d := 9) (n := 6) (x_nd_c (by omega) (x_nd_c (by omega) (x_nd_c (by omega) (H2 _ (by omega) (by omega))))) (x_nd_c (by omega) (x_nd_c (by omega) (x_nd_c (by omega) (H1 _ (by omega) (by omega)))))
  rw [← e3] at V3
  clear e3
  have hs4 : mq_sh g3 = mq_sh h := V3.2.2.1
  have hr14 : mq_R g3 a = mq_R h a := V3.2.2.2.1 a (by omega)
  apply mq_go 60 [68]
  refine gq_i (by rw [hs4, s0]; rfl) ?_
  refine oq_s (by rw [hr14]; exact r4) ?_
  refine gq_i (by rw [hs4, s4, b4]; rfl) ?_
  obtain ⟨g4, e4⟩ : ∃ H, H = mq_cpI g3 (a + 4) 10 0 0 24 := ⟨_, rfl⟩
  show mq_At mq_G (mq_tT lL) 60 68 [some (.retAddr 6), some (.ref a)] [] (mq_cpI g3 (a + 4) 10 0 0 24) Q
  rw [← e4]
  have V4 := V3.cp (s := a + 4) (d := 10) (n := 24) (x_nd_c (by omega) (x_nd_c (by omega) (x_nd_c (by omega) (x_nd_c (by omega) (H2 _ (by omega) (by omega)))))) (x_nd_c (by omega) (x_nd_c (by omega) (x_nd_c (by omega) (x_nd_c (by omega) (H1 _ (by omega) (by omega))))))
  rw [← e4] at V4
  clear e4
  have hs5 : mq_sh g4 = mq_sh h := V4.2.2.1
  have hr15 : mq_R g4 a = mq_R h a := V4.2.2.2.1 a (by omega)
  apply mq_go 60 [83]
  refine gq_i (by rw [hs5, s0]; rfl) ?_
  refine oq_s (by rw [hr15]; exact r5) ?_
  refine gq_i (by rw [hs5, s5, b5]; rfl) ?_
  obtain ⟨g5, e5⟩ : ∃ H, H = mq_cpI g4 (a + 5) 11 0 0 24 := ⟨_, rfl⟩
  show mq_At mq_G (mq_tT lL) 60 83 [some (.retAddr 6), some (.ref a)] [] (mq_cpI g4 (a + 5) 11 0 0 24) Q
  rw [← e5]
  have V5 := V4.cp (s := a + 5) (d := 11) (n := 24) (x_nd_c (by omega) (x_nd_c (by omega) (x_nd_c (by omega) (x_nd_c (by omega) (x_nd_c (by omega) (H2 _ (by omega) (by omega))))))) (x_nd_c (by omega) (x_nd_c (by omega) (x_nd_c (by omega) (x_nd_c (by omega) (x_nd_c (by omega) (H1 _ (by omega) (by omega)))))))
  rw [← e5] at V5
  clear e5
  have hs6 : mq_sh g5 = mq_sh h := V5.2.2.1
  have hr16 : mq_R g5 a = mq_R h a := V5.2.2.2.1 a (by omega)
  apply mq_go 60 [98]
  refine gq_i (by rw [hs6, s0]; rfl) ?_
  refine oq_s (by rw [hr16]; exact r6) ?_
  refine gq_i (by rw [hs6, s6, b6]; rfl) ?_
  obtain ⟨g6, e6⟩ : ∃ H, H = mq_cpI g5 (a + 6) 12 0 0 24 := ⟨_, rfl⟩
  show mq_At mq_G (mq_tT lL) 60 98 [some (.retAddr 6), some (.ref a)] [] (mq_cpI g5 (a + 6) 12 0 0 24) Q
  rw [← e6]
  have V6 := V5.cp (s := a + 6) (d := 12) (n := 24) (x_nd_c (by omega) (x_nd_c (by omega) (x_nd_c (by omega) (x_nd_c (by omega) (x_nd_c (by omega) (x_nd_c (by omega) (H2 _ (by omega) (by omega)))))))) (x_nd_c (by omega) (x_nd_c (by omega) (x_nd_c (by omega) (x_nd_c (by omega) (x_nd_c (by omega) (x_nd_c (by omega) (H1 _ (by omega) (by omega))))))))
  rw [← e6] at V6
  clear e6
  have hs7 : mq_sh g6 = mq_sh h := V6.2.2.1
  have hr17 : mq_R g6 a = mq_R h a := V6.2.2.2.1 a (by omega)
  apply mq_go 60 [113]
  refine gq_i (by rw [hs7, s0]; rfl) ?_
  refine oq_s (by rw [hr17]; exact r7) ?_
  have hh := hg g6 V6
  refine gq_i (by rw [hs7, s7, b7]; show (true && (true && mq_gE g6 (a + 7) 0 8 6)) = true; rw [hh]; rfl) ?_
  apply mq_go 20 []
  show Q none (mq_cpR g6 (a + 7) 13 0 0 8)
  have C := V6.cR (s := (a + 7)) (by omega)
  exact hq _ C.1 C.2
end XU
