/-! the tapes: byte by byte the same; feed, end, text, fault -/
section ZO
variable {lL : Nat} {h h1 h2 : mq_H} {Q : Option Value → mq_H → Prop} {b : Nat → Int} {n : Nat}
theorem z_byte (w : Int32) : (w.toInt8.toInt32.toInt8.toInt32).toInt = z_by (w &&& 255).toInt ∧ 0 ≤ (w &&& 255).toInt ∧ (w &&& 255).toInt ≤ 255 := by
  have a := ci_andR (x := w) (y := 255) (by decide)
  have a2 : (w &&& 255).toInt ≤ 255 := a.2
  have e1 : (w &&& 255).toInt = w.toInt % 256 := by
    rw [← ci_nat a.1, Int32.toBitVec_and, BitVec.toNat_and]
    have e : (255 : Int32).toBitVec.toNat = 2 ^ 8 - 1 := rfl
    rw [e, Nat.and_two_pow_sub_one_eq_mod]
    have q : w.toInt = if 2 * w.toBitVec.toNat < 2 ^ 32 then (w.toBitVec.toNat : Int) else (w.toBitVec.toNat : Int) - (2 ^ 32 : Nat) := by
      rw [← Int32.toInt_toBitVec, BitVec.toInt_eq_toNat_cond]
    have p8 : (2 : Nat) ^ 8 = 256 := rfl
    have p32 : (2 : Nat) ^ 32 = 4294967296 := rfl
    rw [p8]
    rw [p32] at q
    split at q <;> omega
  have e2 : (w.toInt8.toInt32).toInt = w.toInt.bmod 256 := by
    rw [Int8.toInt_toInt32, Int32.toInt_toInt8]
  have e3 : (w.toInt8.toInt32.toInt8.toInt32).toInt = w.toInt.bmod 256 := by
    rw [Int8.toInt_toInt32, Int32.toInt_toInt8, e2]
    exact Int.bmod_bmod
  refine ⟨?_, a.1, a2⟩
  rw [e3, e1]
  unfold z_by Int.bmod
  dsimp only
  split <;> split <;> omega
def z_sh : Nat → Int32
  | 0 => 24
  | j + 1 => z_sh j + -8
def z_w (x : Int32) (j : Nat) : Int32 := x >>> (z_sh j &&& 31)
def z_uc (x : Int32) (L m : Nat) (f : Nat → Int32) : Nat → Int32 := fun i => if L ≤ i ∧ i < L + m then (z_w x (i - L)).toInt8.toInt32.toInt8.toInt32 else f i
def z_um (x : Int32) (L m : Nat) (f : Nat → Int32) : Nat → Int32 := fun i => if L ≤ i ∧ i < L + m then z_w x (i - L) &&& 255 else f i
theorem z_uc_s {x : Int32} {L m : Nat} {f : Nat → Int32} : z_uc x L (m + 1) f = fun i => if i = L + m then (z_w x m).toInt8.toInt32.toInt8.toInt32 else z_uc x L m f i := by
  funext i
  unfold z_uc
  by_cases e : i = L + m
  · rw [if_pos e, if_pos (by omega), e, show L + m - L = m by omega]
  · rw [if_neg e]
    by_cases e2 : L ≤ i ∧ i < L + m
    · rw [if_pos e2, if_pos (by omega)]
    · rw [if_neg e2, if_neg (by omega)]
theorem z_um_s {x : Int32} {L m : Nat} {f : Nat → Int32} : z_um x L (m + 1) f = fun i => if i = L + m then z_w x m &&& 255 else z_um x L m f i := by
  funext i
  unfold z_um
  by_cases e : i = L + m
  · rw [if_pos e, if_pos (by omega), e, show L + m - L = m by omega]
  · rw [if_neg e]
    by_cases e2 : L ≤ i ∧ i < L + m
    · rw [if_pos e2, if_pos (by omega)]
    · rw [if_neg e2, if_neg (by omega)]
theorem z_uc_0 {x : Int32} {L : Nat} {f : Nat → Int32} : z_uc x L 0 f = f := by
  funext i
  exact if_neg (by omega)
theorem z_um_0 {x : Int32} {L : Nat} {f : Nat → Int32} : z_um x L 0 f = f := by
  funext i
  exact if_neg (by omega)
def z_TB (f g : Nat → Int32) (n : Nat) : Prop := ∀ i, i < n → (f i).toInt = z_by (g i).toInt ∧ 0 ≤ (g i).toInt ∧ (g i).toInt ≤ 255
theorem z_TB.u {f g : Nat → Int32} {x : Int32} (T : z_TB f g n) : z_TB (z_uc x n 4 f) (z_um x n 4 g) (n + 4) := by
  intro i hi
  unfold z_uc z_um
  by_cases e : n ≤ i ∧ i < n + 4
  · rw [if_pos e, if_pos e]
    exact z_byte _
  · rw [if_neg e, if_neg e]
    exact T i (by omega)
theorem z_shv : ∀ j, j ≤ 4 → (z_sh j).toInt = 24 - 8 * (j : Int) := by decide
theorem z_putB {x : Int32} {L : Nat} (eL : mq_I h 35 1 = nI L) (hL : L + 4 ≤ 400) (N : Nat) : mq_PC mq_G (mq_tT lL) N 77 [.retAddr 35, .int x] h (fun v h2 => v = none ∧ mq_I h2 35 1 = nI (L + 4) ∧ mq_I h2 36 = z_uc x L 4 (mq_I h 36)) := by
  have lp : ∀ (k j : Nat) (h1 : mq_H) (N : Nat), j + k = 4 → mq_I h1 35 1 = nI (L + j) → mq_I h1 36 = z_uc x L j (mq_I h 36) → mq_Pn mq_G (mq_tT lL) N 77 3 [some (.retAddr 35), some (.int x), some (.int (z_sh j))] [] h1 (fun v h2 => v = none ∧ mq_I h2 35 1 = nI (L + 4) ∧ mq_I h2 36 = z_uc x L 4 (mq_I h 36)) := by
    intro k
    induction k with
    | zero =>
      intro j h1 N hj e1 e2
      have hs := z_shv j (by omega)
      have : j = 4 := by omega
      subst this
      refine (mq_gl (n := N) 40 [3] ?_).dn (by omega)
      refine bq_t (by rw [lt_i]; show (z_sh 4).toInt < 0; omega) ?_
      exact ⟨rfl, e1, e2⟩
    | succ k ih =>
      intro j h1 N hj e1 e2
      have hs := z_shv j (by omega)
      refine (mq_gl (n := N) 40 [3] ?_).dn (by omega)
      refine bq_f (by rw [lt_i]; show ¬ (z_sh j).toInt < 0; omega) ?_
      refine bq_f (by show ¬ (400 : Int32) ≤ mq_I h1 35 1; rw [e1, le_i, nI_toInt (by omega)]; show ¬ (400 : Int) ≤ ((L + j : Nat) : Int); omega) ?_
      intro _
      have cl : (mq_I h1 35 1).toNatClampNeg = L + j := x_cl e1 (by omega)
      refine ih (j + 1) _ N (by omega) ?_ ?_
      · show mq_I h1 35 1 + 1 = _
        rw [e1, nI_1]
        rfl
      · rw [z_uc_s]
        funext i
        show (if i = (mq_I h1 35 1).toNatClampNeg then (x >>> (z_sh j &&& 31)).toInt8.toInt32.toInt8.toInt32 else mq_I h1 36 i) = _
        rw [cl, e2]
        rfl
  revert N
  refine mq_el_in 40 [3] (fun N => ?_)
  exact lp 4 0 h N rfl eL z_uc_0.symm
theorem z_typB {x : Int32} {L : Nat} (eL : mq_I h 59 25 = nI L) (hL : L + 4 ≤ 400) (N : Nat) : mq_PC mq_G (mq_tT lL) N 154 [.retAddr 59, .int x] h (fun v h2 => v = none ∧ mq_I h2 59 25 = nI (L + 4) ∧ mq_I h2 80 = z_um x L 4 (mq_I h 80)) := by
  have lp : ∀ (k j : Nat) (h1 : mq_H) (N : Nat), j + k = 4 → mq_I h1 59 25 = nI (L + j) → mq_I h1 80 = z_um x L j (mq_I h 80) → mq_Pn mq_G (mq_tT lL) N 154 3 [some (.retAddr 59), some (.int x), some (.int (z_sh j))] [] h1 (fun v h2 => v = none ∧ mq_I h2 59 25 = nI (L + 4) ∧ mq_I h2 80 = z_um x L 4 (mq_I h 80)) := by
    intro k
    induction k with
    | zero =>
      intro j h1 N hj e1 e2
      have hs := z_shv j (by omega)
      have : j = 4 := by omega
      subst this
      refine (mq_gl (n := N) 40 [3] ?_).dn (by omega)
      refine bq_t (by rw [lt_i]; show (z_sh 4).toInt < 0; omega) ?_
      exact ⟨rfl, e1, e2⟩
    | succ k ih =>
      intro j h1 N hj e1 e2
      have hs := z_shv j (by omega)
      refine (mq_gl (n := N) 40 [3] ?_).dn (by omega)
      refine bq_f (by rw [lt_i]; show ¬ (z_sh j).toInt < 0; omega) ?_
      intro _
      have cl : (mq_I h1 59 25).toNatClampNeg = L + j := x_cl e1 (by omega)
      refine ih (j + 1) _ N (by omega) ?_ ?_
      · show mq_I h1 59 25 + 1 = _
        rw [e1, nI_1]
        rfl
      · rw [z_um_s]
        funext i
        show (if i = (mq_I h1 59 25).toNatClampNeg then x >>> (z_sh j &&& 31) &&& 255 else mq_I h1 80 i) = _
        rw [cl, e2]
        rfl
  revert N
  refine mq_el_in 40 [3] (fun N => ?_)
  exact lp 4 0 h N rfl eL z_um_0.symm
/-- feed -/
def z_f5c (a c d e g : Int32) (L : Nat) (f : Nat → Int32) : Nat → Int32 := z_uc g (L + 4 + 4 + 4 + 4) 4 (z_uc e (L + 4 + 4 + 4) 4 (z_uc d (L + 4 + 4) 4 (z_uc c (L + 4) 4 (z_uc a L 4 f))))
def z_f5m (a c d e g : Int32) (L : Nat) (f : Nat → Int32) : Nat → Int32 := z_um g (L + 4 + 4 + 4 + 4) 4 (z_um e (L + 4 + 4 + 4) 4 (z_um d (L + 4 + 4) 4 (z_um c (L + 4) 4 (z_um a L 4 f))))
def z_spf (L : Nat) (v : Option Value) (l2 : Int32) (f f2 f5 : Nat → Int32) : Prop := (L ≤ 380 ∧ v = some (.int (nI (L + 4 + 4 + 4 + 4 + 4))) ∧ l2 = nI (L + 4 + 4 + 4 + 4 + 4) ∧ f2 = f5) ∨ (¬ L ≤ 380 ∧ v = some (.int (-1)) ∧ l2 = nI L ∧ f2 = f)
def z_pc_feed (a c d e g : Int32) (h : mq_H) (v : Option Value) (h2 : mq_H) : Prop := ∀ L, mq_I h 35 1 = nI L → L ≤ 400 → z_spf L v (mq_I h2 35 1) (mq_I h 36) (mq_I h2 36) (z_f5c a c d e g L (mq_I h 36))
def z_pm_feed (a c d e g : Int32) (h : mq_H) (v : Option Value) (h2 : mq_H) : Prop := ∀ L, mq_I h 59 25 = nI L → L ≤ 400 → z_spf L v (mq_I h2 59 25) (mq_I h 80) (mq_I h2 80) (z_f5m a c d e g L (mq_I h 80))
theorem z_c_feed (_ : ck_Iv x_X h) {a c d e g : Int32} (N : Nat) : mq_PC mq_G (mq_tT lL) N 107 [.retAddr 4, .int a, .int c, .int d, .int e, .int g] h (z_pc_feed a c d e g h) := by
  intro LL hL f hf v h2 hr L eL hL4
  revert v h2 f LL
  show mq_PC mq_G (mq_tT lL) N 107 [.retAddr 4, .int a, .int c, .int d, .int e, .int g] h (fun v h2 => z_spf L v (mq_I h2 35 1) (mq_I h 36) (mq_I h2 36) (z_f5c a c d e g L (mq_I h 36)))
  revert N
  refine mq_el_in 60 [] (fun N => ?_)
  refine bq_c (fun q => ?_) (fun q => ?_)
  · rw [le_i, eL, nI_toInt (by omega)] at q
    have q : (L : Int) ≤ 380 := q
    refine mq_PC.mono (z_putB eL (by omega) N) (fun v h1 ⟨ev, e1, t1⟩ => ?_)
    subst ev
    refine mq_PC.mono (z_putB e1 (by omega) N) (fun v h2 ⟨ev, e2, t2⟩ => ?_)
    subst ev
    refine mq_PC.mono (z_putB e2 (by omega) N) (fun v h3 ⟨ev, e3, t3⟩ => ?_)
    subst ev
    refine mq_PC.mono (z_putB e3 (by omega) N) (fun v h4 ⟨ev, e4, t4⟩ => ?_)
    subst ev
    refine mq_PC.mono (z_putB e4 (by omega) N) (fun v h5 ⟨ev, e5, t5⟩ => ?_)
    subst ev
    exact Or.inl ⟨by omega, congrArg (fun z => some (Value.int z)) e5, e5, by rw [t5, t4, t3, t2, t1]; rfl⟩
  · rw [le_i, eL, nI_toInt (by omega)] at q
    have q : ¬ (L : Int) ≤ 380 := q
    exact Or.inr ⟨by omega, rfl, eL, rfl⟩
theorem z_m_feed (_ : ck_Iv x_X h) {a c d e g : Int32} (N : Nat) : mq_PC mq_G (mq_tT lL) N 155 [.retAddr 59, .int a, .int c, .int d, .int e, .int g] h (z_pm_feed a c d e g h) := by
  intro LL hL f hf v h2 hr L eL hL4
  revert v h2 f LL
  show mq_PC mq_G (mq_tT lL) N 155 [.retAddr 59, .int a, .int c, .int d, .int e, .int g] h (fun v h2 => z_spf L v (mq_I h2 59 25) (mq_I h 80) (mq_I h2 80) (z_f5m a c d e g L (mq_I h 80)))
  revert N
  refine mq_el_in 60 [] (fun N => ?_)
  refine bq_c (fun q => ?_) (fun q => ?_)
  · have q : mq_I h 59 25 ≤ 380 := q
    rw [le_i, eL, nI_toInt (by omega)] at q
    have q : (L : Int) ≤ 380 := q
    refine mq_PC.mono (z_typB (h := mq_setI h 59 0 0) (L := L) eL (by omega) N) (fun v h1 ⟨ev, e1, t1⟩ => ?_)
    subst ev
    refine mq_PC.mono (z_typB e1 (by omega) N) (fun v h2 ⟨ev, e2, t2⟩ => ?_)
    subst ev
    refine mq_PC.mono (z_typB e2 (by omega) N) (fun v h3 ⟨ev, e3, t3⟩ => ?_)
    subst ev
    refine mq_PC.mono (z_typB e3 (by omega) N) (fun v h4 ⟨ev, e4, t4⟩ => ?_)
    subst ev
    refine mq_PC.mono (z_typB e4 (by omega) N) (fun v h5 ⟨ev, e5, t5⟩ => ?_)
    subst ev
    exact Or.inl ⟨by omega, congrArg (fun z => some (Value.int z)) e5, e5, by rw [t5, t4, t3, t2, t1]; rfl⟩
  · have q : ¬ mq_I h 59 25 ≤ 380 := q
    rw [le_i, eL, nI_toInt (by omega)] at q
    have q : ¬ (L : Int) ≤ 380 := q
    exact Or.inr ⟨by omega, rfl, eL, rfl⟩
/-- the tapes are the same -/
def z_TP (h : mq_H) : Prop := ∃ n, n ≤ 400 ∧ mq_I h 35 1 = nI n ∧ mq_I h 59 25 = nI n ∧ z_TB (mq_I h 36) (mq_I h 80) n
theorem z_TP.fr (T : z_TP h) (f1 : mq_I h2 35 1 = mq_I h 35 1) (f2 : mq_I h2 59 25 = mq_I h 59 25) (f3 : ∀ k, mq_I h2 36 k = mq_I h 36 k) (f4 : ∀ k, mq_I h2 80 k = mq_I h 80 k) : z_TP h2 := by
  obtain ⟨n, t1, t2, t3, t4⟩ := T
  exact ⟨n, t1, f1.trans t2, f2.trans t3, fun i hi => by rw [f3, f4]; exact t4 i hi⟩
theorem z_l_feed {a c d e g r1 r2 : Int32} (T : z_TP h) (m1 : ck_md kc_107.2.2 h h1) (s1 : z_pc_feed a c d e g h (some (.int r1)) h1) (m2 : ck_md kc_155.2.2 h1 h2) (s2 : z_pm_feed a c d e g h1 (some (.int r2)) h2) : r1 = r2 ∧ z_TP h2 := by
  obtain ⟨n, n4, t1, t2, T⟩ := T
  have q1 : mq_I h1 59 25 = nI n := (m1.2.2.2.2 _ _ (by decide)).trans t2
  have q2 : mq_I h1 80 = mq_I h 80 := by funext k; exact m1.2.2.2.2 _ _ (show Nat.testBit _ (ck_lca 80) = false by decide)
  have q3 : mq_I h2 35 1 = mq_I h1 35 1 := m2.2.2.2.2 _ _ (by decide)
  have q4 : mq_I h2 36 = mq_I h1 36 := by funext k; exact m2.2.2.2.2 _ _ (show Nat.testBit _ (ck_lca 36) = false by decide)
  have s1 := s1 n t1 n4
  have s2 := s2 n q1 n4
  rw [q2] at s2
  rcases s1 with ⟨a0, a1, a2, a3⟩ | ⟨a0, a1, a2, a3⟩ <;> rcases s2 with ⟨c0, c1, c2, c3⟩ | ⟨c0, c1, c2, c3⟩
  · refine ⟨(y_vi a1).trans (y_vi c1).symm, n + 4 + 4 + 4 + 4 + 4, by omega, q3.trans a2, c2, ?_⟩
    rw [q4, a3, c3]
    exact T.u.u.u.u.u
  · exact absurd a0 c0
  · exact absurd c0 a0
  · refine ⟨(y_vi a1).trans (y_vi c1).symm, n, n4, q3.trans a2, c2, ?_⟩
    rw [q4, a3, c3]
    exact T
theorem z_l_end {x r1 r2 : Int32} (T : z_TP h) (m1 : ck_md kc_108.2.2 h h1) (s1 : y_pc_end x h (some (.int r1)) h1) (m2 : ck_md kc_156.2.2 h1 h2) (s2 : y_pm_end x h1 (some (.int r2)) h2) : r1 = r2 ∧ z_TP h2 := by
  obtain ⟨n, n4, t1, t2, T⟩ := T
  have q4 : ∀ k, mq_I h2 36 k = mq_I h 36 k := fun k => (m2.2.2.2.2 _ _ (show Nat.testBit _ (ck_lca 36) = false by decide)).trans (m1.2.2.2.2 _ _ (show Nat.testBit _ (ck_lca 36) = false by decide))
  have q5 : ∀ k, mq_I h2 80 k = mq_I h 80 k := fun k => (m2.2.2.2.2 _ _ (show Nat.testBit _ (ck_lca 80) = false by decide)).trans (m1.2.2.2.2 _ _ (show Nat.testBit _ (ck_lca 80) = false by decide))
  obtain ⟨a1, a2⟩ := s1
  obtain ⟨b1, b2⟩ := s2
  rw [m1.2.2.2.2 59 25 (by decide), t2] at b1 b2
  rw [t1] at a1 a2
  have a2 : mq_I h2 35 1 = (y_en (nI n) x).2 := (m2.2.2.2.2 _ _ (by decide)).trans a2
  refine ⟨(y_vi a1).trans (y_vi b1).symm, ?_⟩
  by_cases cc : 0 ≤ x.toInt ∧ x.toInt ≤ (nI n).toInt
  · rw [y_en_1 cc] at a2 b2
    rw [nI_toInt (by omega)] at cc
    obtain ⟨k, ek, hk, hki⟩ := x_nat (n := n) cc.1 cc.2
    exact ⟨k, by omega, a2.trans ek, b2.trans ek, fun i hi => by rw [q4, q5]; exact T i (by omega)⟩
  · rw [y_en_0 cc] at a2 b2
    exact ⟨n, n4, a2, b2, fun i hi => by rw [q4, q5]; exact T i hi⟩
end ZO
