theorem mq_mod.tn {lo hi lo2 hi2 n1 z1 n2 z2 n z : Nat} {h h1 h2 : mq_H} (a : mq_mod lo hi n1 z1 h h1) (b : mq_mod lo2 hi2 n2 z2 h1 h2) (hl : mq_N h ≤ lo2) (hn : n1 + n2 ≤ n) (hz : z1 + z2 ≤ z) : mq_mod lo hi n z h h2 := by
  obtain ⟨a1, a2, a3, a4, a5⟩ := a
  obtain ⟨b1, b2, b3, b4, b5⟩ := b
  refine ⟨by omega, by omega, by omega, by omega, fun q hq hnq => ?_⟩
  obtain ⟨x1, x2, x3, x4⟩ := a5 q hq hnq
  obtain ⟨y1, y2, y3, y4⟩ := b5 q (by omega) (by omega)
  exact ⟨y1.trans x1, y2.trans x2, y3.trans x3, y4.trans x4⟩
theorem mq_N_cpR (h : mq_H) (a b sp dp n : Nat) : mq_N (mq_cpR h a b sp dp n) = mq_N h := rfl
theorem mq_I_cpR (h : mq_H) (a b sp dp n : Nat) : mq_I (mq_cpR h a b sp dp n) = mq_I h := rfl
theorem mq_R_cpR (h : mq_H) (a b sp dp n c j : Nat) (hc : ¬ c = b) : mq_R (mq_cpR h a b sp dp n) c j = mq_R h c j := if_neg hc
