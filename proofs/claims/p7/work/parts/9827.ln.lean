/-! the tape's length: feed, end, text -/
section YL
variable {lL : Nat} {h h1 h2 : mq_H} {Q : Option Value → mq_H → Prop}
theorem y_put {x : Int32} {L : Nat} (eL : mq_I h 35 1 = nI L) (hL : L + 4 ≤ 400) (n : Nat) : mq_PC mq_G (mq_tT lL) n 77 [.retAddr 35, .int x] h (fun v h2 => v = none ∧ mq_I h2 35 1 = nI (L + 4)) := by
  have lp : ∀ (k L : Nat) (s : Int32) (h1 : mq_H) (n : Nat), s.toInt = 8 * (k : Int) - 8 → mq_I h1 35 1 = nI L → L + k ≤ 400 → mq_Pn mq_G (mq_tT lL) n 77 3 [some (.retAddr 35), some (.int x), some (.int s)] [] h1 (fun v h2 => v = none ∧ mq_I h2 35 1 = nI (L + k)) := by
    intro k
    induction k with
    | zero =>
      intro L s h1 n hs eL hL
      refine (mq_gl (n := n) 40 [3] ?_).dn (by omega)
      refine bq_t (by rw [lt_i]; show s.toInt < 0; omega) ?_
      exact ⟨rfl, eL⟩
    | succ k ih =>
      intro L s h1 n hs eL hL
      have hb := ci_rng s
      refine (mq_gl (n := n) 40 [3] ?_).dn (by omega)
      refine bq_f (by rw [lt_i]; show ¬ s.toInt < 0; omega) ?_
      refine bq_f (by show ¬ (400 : Int32) ≤ mq_I h1 35 1; rw [eL, le_i, nI_toInt (by omega)]; show ¬ (400 : Int) ≤ (L : Int); omega) ?_
      intro _
      rw [show L + (k + 1) = L + 1 + k by omega]
      refine ih (L + 1) (s + -8) _ n ?_ ?_ (by omega)
      · have e8 : (-8 : Int32).toInt = -8 := rfl
        by_cases q : 0 < k
        · rw [ci_add (by rw [e8]; omega), e8]; omega
        · rw [ci_add (by rw [e8]; omega), e8]; omega
      · show mq_I h1 35 1 + 1 = nI (L + 1)
        rw [eL, nI_1]
  revert n
  refine mq_el_in 40 [3] (fun n => ?_)
  exact lp 4 L _ h n rfl eL hL
theorem y_typ {x : Int32} {L : Nat} (eL : mq_I h 59 25 = nI L) (n : Nat) : mq_PC mq_G (mq_tT lL) n 154 [.retAddr 59, .int x] h (fun v h2 => v = none ∧ mq_I h2 59 25 = nI (L + 4)) := by
  have lp : ∀ (k L : Nat) (s : Int32) (h1 : mq_H) (n : Nat), k ≤ 4 → s.toInt = 8 * (k : Int) - 8 → mq_I h1 59 25 = nI L → mq_Pn mq_G (mq_tT lL) n 154 3 [some (.retAddr 59), some (.int x), some (.int s)] [] h1 (fun v h2 => v = none ∧ mq_I h2 59 25 = nI (L + k)) := by
    intro k
    induction k with
    | zero =>
      intro L s h1 n hk hs eL
      refine (mq_gl (n := n) 40 [3] ?_).dn (by omega)
      refine bq_t (by rw [lt_i]; show s.toInt < 0; omega) ?_
      exact ⟨rfl, eL⟩
    | succ k ih =>
      intro L s h1 n hk hs eL
      refine (mq_gl (n := n) 40 [3] ?_).dn (by omega)
      refine bq_f (by rw [lt_i]; show ¬ s.toInt < 0; omega) ?_
      intro _
      rw [show L + (k + 1) = L + 1 + k by omega]
      refine ih (L + 1) (s + -8) _ n (by omega) ?_ ?_
      · have e8 : (-8 : Int32).toInt = -8 := rfl
        rw [ci_add (by rw [e8]; omega), e8]; omega
      · show mq_I h1 59 25 + 1 = nI (L + 1)
        rw [eL, nI_1]
  revert n
  refine mq_el_in 40 [3] (fun n => ?_)
  exact lp 4 L _ h n (by omega) rfl eL
def y_fd (l : Int32) : Int32 × Int32 := if l.toInt ≤ 380 then (l + 20, l + 20) else (-1, l)
def y_pc_feed (a b c d e : Int32) (h : mq_H) (v : Option Value) (h2 : mq_H) : Prop := v = some (.int (y_fd (mq_I h 35 1)).1) ∧ mq_I h2 35 1 = (y_fd (mq_I h 35 1)).2
def y_pm_feed (a b c d e : Int32) (h : mq_H) (v : Option Value) (h2 : mq_H) : Prop := v = some (.int (y_fd (mq_I h 59 25)).1) ∧ mq_I h2 59 25 = (y_fd (mq_I h 59 25)).2
theorem y_20 (L : Nat) : nI L + 20 = nI (L + 4 + 4 + 4 + 4 + 4) := by rw [show (20 : Int32) = nI 20 from rfl, nI_add]
theorem y_c_feed (I : ck_Iv x_X h) {a b c d e : Int32} (n : Nat) : mq_PC mq_G (mq_tT lL) n 107 [.retAddr 4, .int a, .int b, .int c, .int d, .int e] h (y_pc_feed a b c d e h) := by
  have l0 := I.1.1 35 1 0 400 rfl
  obtain ⟨L, eL, hL, hLi⟩ := x_nat (n := 400) l0.1 l0.2
  revert n
  unfold y_pc_feed
  refine mq_el_in 60 [] (fun n => ?_)
  refine bq_c (fun q => ?_) (fun q => ?_)
  · rw [le_i] at q
    have q : (mq_I h 35 1).toInt ≤ 380 := q
    have ef : y_fd (mq_I h 35 1) = (mq_I h 35 1 + 20, mq_I h 35 1 + 20) := if_pos q
    rw [ef, eL, y_20]
    refine mq_PC.mono (y_put eL (by omega) n) (fun v h1 ⟨ev, e1⟩ => ?_)
    subst ev
    refine mq_PC.mono (y_put e1 (by omega) n) (fun v h2 ⟨ev, e2⟩ => ?_)
    subst ev
    refine mq_PC.mono (y_put e2 (by omega) n) (fun v h3 ⟨ev, e3⟩ => ?_)
    subst ev
    refine mq_PC.mono (y_put e3 (by omega) n) (fun v h4 ⟨ev, e4⟩ => ?_)
    subst ev
    refine mq_PC.mono (y_put e4 (by omega) n) (fun v h5 ⟨ev, e5⟩ => ?_)
    subst ev
    exact ⟨congrArg (fun z => some (Value.int z)) e5, e5⟩
  · rw [le_i] at q
    have q : ¬ (mq_I h 35 1).toInt ≤ 380 := q
    have ef : y_fd (mq_I h 35 1) = (-1, mq_I h 35 1) := if_neg q
    rw [ef]
    exact ⟨rfl, rfl⟩
theorem y_m_feed (I : ck_Iv x_X h) {a b c d e : Int32} (n : Nat) : mq_PC mq_G (mq_tT lL) n 155 [.retAddr 59, .int a, .int b, .int c, .int d, .int e] h (y_pm_feed a b c d e h) := by
  have l0 := I.1.1 59 25 0 400 rfl
  obtain ⟨L, eL, hL, hLi⟩ := x_nat (n := 400) l0.1 l0.2
  revert n
  unfold y_pm_feed
  refine mq_el_in 60 [] (fun n => ?_)
  refine bq_c (fun q => ?_) (fun q => ?_)
  · rw [le_i] at q
    have q : (mq_I h 59 25).toInt ≤ 380 := q
    have ef : y_fd (mq_I h 59 25) = (mq_I h 59 25 + 20, mq_I h 59 25 + 20) := if_pos q
    rw [ef, eL, y_20]
    refine mq_PC.mono (y_typ (h := mq_setI h 59 0 0) (L := L) eL n) (fun v h1 ⟨ev, e1⟩ => ?_)
    subst ev
    refine mq_PC.mono (y_typ e1 n) (fun v h2 ⟨ev, e2⟩ => ?_)
    subst ev
    refine mq_PC.mono (y_typ e2 n) (fun v h3 ⟨ev, e3⟩ => ?_)
    subst ev
    refine mq_PC.mono (y_typ e3 n) (fun v h4 ⟨ev, e4⟩ => ?_)
    subst ev
    refine mq_PC.mono (y_typ e4 n) (fun v h5 ⟨ev, e5⟩ => ?_)
    subst ev
    exact ⟨congrArg (fun z => some (Value.int z)) e5, e5⟩
  · rw [le_i] at q
    have q : ¬ (mq_I h 59 25).toInt ≤ 380 := q
    have ef : y_fd (mq_I h 59 25) = (-1, mq_I h 59 25) := if_neg q
    rw [ef]
    exact ⟨rfl, rfl⟩
def y_en (l x : Int32) : Int32 × Int32 := if 0 ≤ x.toInt ∧ x.toInt ≤ l.toInt then (1, x) else (0, l)
def y_pc_end (x : Int32) (h : mq_H) (v : Option Value) (h2 : mq_H) : Prop := v = some (.int (y_en (mq_I h 35 1) x).1) ∧ mq_I h2 35 1 = (y_en (mq_I h 35 1) x).2
def y_pm_end (x : Int32) (h : mq_H) (v : Option Value) (h2 : mq_H) : Prop := v = some (.int (y_en (mq_I h 59 25) x).1) ∧ mq_I h2 59 25 = (y_en (mq_I h 59 25) x).2
theorem y_en_1 {l x : Int32} (c : 0 ≤ x.toInt ∧ x.toInt ≤ l.toInt) : y_en l x = (1, x) := if_pos c
theorem y_en_0 {l x : Int32} (c : ¬ (0 ≤ x.toInt ∧ x.toInt ≤ l.toInt)) : y_en l x = (0, l) := if_neg c
theorem y_c_end (_ : ck_Iv x_X h) {x : Int32} (n : Nat) : mq_PC mq_G (mq_tT lL) n 108 [.retAddr 4, .int x] h (y_pc_end x h) := by
  revert n
  unfold y_pc_end
  refine mq_el_in 60 [] (fun n => ?_)
  refine bq_c (fun q => ?_) (fun q => ?_)
  · rw [lt_i] at q
    have q : x.toInt < 0 := q
    rw [y_en_0 (by omega)]
    intro _
    exact ⟨rfl, rfl⟩
  · rw [lt_i] at q
    have q : ¬ x.toInt < 0 := q
    refine bq_c (fun q2 => ?_) (fun q2 => ?_)
    · rw [le_i] at q2
      have q2 : x.toInt ≤ (mq_I h 35 1).toInt := q2
      rw [y_en_1 (by omega)]
      intro _
      exact ⟨rfl, rfl⟩
    · rw [le_i] at q2
      have q2 : ¬ x.toInt ≤ (mq_I h 35 1).toInt := q2
      rw [y_en_0 (by omega)]
      intro _
      exact ⟨rfl, rfl⟩
theorem y_m_end (_ : ck_Iv x_X h) {x : Int32} (n : Nat) : mq_PC mq_G (mq_tT lL) n 156 [.retAddr 59, .int x] h (y_pm_end x h) := by
  revert n
  unfold y_pm_end
  refine mq_el_in 60 [] (fun n => ?_)
  refine y_ii (a := 0) (b := (mq_I h 59 25).toInt) rfl rfl (fun a b => ?_) (fun z => ?_)
  · refine bn_t (by decide) ?_
    rw [y_en_1 ⟨a, b⟩]
    intro _
    exact ⟨rfl, rfl⟩
  · refine bn_f rfl ?_
    rw [y_en_0 z]
    intro _
    exact ⟨rfl, rfl⟩
def y_pc_text (h h2 : mq_H) : Prop := x_cf x_CtM h h2 ∧ mq_I h2 35 1 = 0
def y_pm_text (h h2 : mq_H) : Prop := ck_md x_XM h h2 ∧ mq_I h2 59 25 = 0
theorem y_m_text (I : ck_Iv x_X h) {x : Int32} (n : Nat) : mq_PC mq_G (mq_tT lL) n 177 [.retAddr 59, .int x] h (fun _ h2 => mq_I h2 59 25 = 0) := by
  have T0 : ∀ y : Int32, (-2147483648 : Int) ≤ y.toInt ∧ y.toInt ≤ 2147483647 := ci_rng
  have K1 := x_fld (x := 0) (k := 0) I (ck_md.rf _ h) (by decide) rfl (T0 0).1 (T0 0).2
  have K2 := x_fld (x := 0) (k := 45) K1.1 K1.2 (by decide) rfl (T0 0).1 (T0 0).2
  have K3 := x_fld (x := -1) (k := 46) K2.1 K2.2 (by decide) rfl (T0 (-1)).1 (T0 (-1)).2
  have K4 := x_fld (x := 0) (k := 26) K3.1 K3.2 (by decide) rfl (by decide) (by decide)
  have K5 := x_fld (x := 0) (k := 39) K4.1 K4.2 (by decide) rfl (by decide) (by decide)
  have K6 := x_fld (x := 0) (k := 40) K5.1 K5.2 (by decide) rfl (T0 0).1 (T0 0).2
  obtain ⟨T, eT, hT, -⟩ := x_nat (n := 400) (I.1.1 59 25 0 400 rfl).1 (I.1.1 59 25 0 400 rfl).2
  have lp2 : ∀ (n : Nat) (r k y : Int32) (h1 : mq_H), mq_I h1 59 25 = 0 → mq_Pn mq_G (mq_tT lL) n 177 223 [some (.retAddr 59), some (.int x), some (.int r), some (.int k), some (.int y)] [] h1 (fun _ h2 => mq_I h2 59 25 = 0) := by
    intro n
    induction n with
    | zero => intro r k y h1 _; exact mq_Pn.z
    | succ n ih =>
      intro r k y h1 e
      refine mq_gl 80 [223] ?_
      refine bq_c (fun _ => ?_) (fun _ => ?_)
      · intro _
        exact e
      · intro _ _ _ _
        exact ih _ _ _ _ e
  have lp1 : ∀ (n : Nat) (r k y : Int32) (h1 : mq_H), mq_I h1 59 25 = 0 → mq_Pn mq_G (mq_tT lL) n 177 93 [some (.retAddr 59), some (.int x), some (.int r), some (.int k), some (.int y)] [] h1 (fun _ h2 => mq_I h2 59 25 = 0) := by
    intro n
    induction n with
    | zero => intro r k y h1 _; exact mq_Pn.z
    | succ n ih =>
      intro r k y h1 e
      refine mq_gl 80 [93, 223] ?_
      refine bq_c (fun _ => ?_) (fun _ => ?_)
      · exact lp2 _ _ _ _ _ e
      · intro _ _ _ _ _ _ _ _ _ _
        exact ih _ _ _ _ e
  have k53 : ∀ (n : Nat) (r k : Int32) (l4 : Option Value) (h1 : mq_H), mq_Pn mq_G (mq_tT lL) n 177 53 [some (.retAddr 59), some (.int x), some (.int r), some (.int k), l4] [] h1 (fun _ h2 => mq_I h2 59 25 = 0) := by
    intro n r k l4 h1
    refine (mq_gl (n := n) 80 [93] ?_).dn (by omega)
    refine bq_c (fun _ => ?_) (fun _ => ?_)
    · refine bn_c (fun _ => ?_) (fun _ => ?_)
      · exact lp1 _ _ _ _ _ rfl
      · rfl
    · refine bn_c (fun _ => ?_) (fun _ => ?_)
      · refine bn_c (fun _ => ?_) (fun _ => ?_)
        · exact lp1 _ _ _ _ _ rfl
        · rfl
      · refine bn_c (fun _ => ?_) (fun _ => ?_)
        · exact lp1 _ _ _ _ _ rfl
        · rfl
  revert n
  refine mq_el_in 80 [53] (fun n => ?_)
  refine mq_Call.pc (x_isLaw (fun x0 x1 => ?_) ?_) n
  · refine mq_Call.pc (x_reads K6.1 (s0 := 0) (T := T) rfl eT (by omega) hT (fun h1 I1 m1 ⟨f, s, e1, e2, e3, e4, e5, e6, e7⟩ => ?_)) n
    refine bq_f (by decide) ?_
    refine mq_Call.pc (x_rtext I1 (T := T) (f0 := f) ⟨(m1.2.2.2.2 _ _ (by decide)), e1, ⟨s, e2, e4, e5, e6⟩, e7, Nat.le_refl _, rfl, (m1.2.2.2.2 _ _ (by decide)).trans eT, fun _ _ => ⟨rfl, rfl⟩⟩ hT (m1.2.2.2.2 59 40 (by decide)) (fun v h2 I2 m2 hv => ?_)) n
    exact k53 n _ _ _ _
  · refine mq_Call.pc (x_reads K6.1 (s0 := 0) (T := T) rfl eT (by omega) hT (fun h1 I1 m1 _ => ?_)) n
    refine bq_t rfl ?_
    exact k53 n _ _ _ _
theorem y_l_feed {a b c d e r1 r2 : Int32} (ln : mq_I h 35 1 = mq_I h 59 25) (m1 : ck_md kc_107.2.2 h h1) (s1 : y_pc_feed a b c d e h (some (.int r1)) h1) (m2 : ck_md kc_155.2.2 h1 h2) (s2 : y_pm_feed a b c d e h1 (some (.int r2)) h2) : r1 = r2 ∧ mq_I h2 35 1 = mq_I h2 59 25 := by
  obtain ⟨a1, a2⟩ := s1
  obtain ⟨b1, b2⟩ := s2
  rw [m1.2.2.2.2 59 25 (by decide), ← ln] at b1 b2
  exact ⟨(y_vi a1).trans (y_vi b1).symm, by rw [m2.2.2.2.2 35 1 (by decide), a2, b2]⟩
theorem y_l_end {x r1 r2 : Int32} (ln : mq_I h 35 1 = mq_I h 59 25) (m1 : ck_md kc_108.2.2 h h1) (s1 : y_pc_end x h (some (.int r1)) h1) (m2 : ck_md kc_156.2.2 h1 h2) (s2 : y_pm_end x h1 (some (.int r2)) h2) : r1 = r2 ∧ mq_I h2 35 1 = mq_I h2 59 25 := by
  obtain ⟨a1, a2⟩ := s1
  obtain ⟨b1, b2⟩ := s2
  rw [m1.2.2.2.2 59 25 (by decide), ← ln] at b1 b2
  exact ⟨(y_vi a1).trans (y_vi b1).symm, by rw [m2.2.2.2.2 35 1 (by decide), a2, b2]⟩
theorem y_l_image {x r1 r2 : Int32} (ln : mq_I h 35 1 = mq_I h 59 25) (C : y_ci x h r1 h1) (D : y_mi x h1 r2 h2) : mq_I h2 35 1 = mq_I h2 59 25 := by
  have c : mq_I h1 35 1 = mq_I h 35 1 ∧ mq_I h1 59 25 = mq_I h 59 25 := by
    rcases C with ⟨-, -, -, rfl⟩ | ⟨-, -, b, -, -, -, -, c2⟩ | ⟨-, -, b, -, -, -, c2⟩
    · exact ⟨rfl, rfl⟩
    · exact ⟨c2 _ _ (by decide) (by decide), c2 _ _ (by decide) (by decide)⟩
    · exact ⟨c2 _ _ (by decide), c2 _ _ (by decide)⟩
  have d : mq_I h2 35 1 = mq_I h1 35 1 ∧ mq_I h2 59 25 = mq_I h1 59 25 := by
    rcases D with ⟨-, -, -, rfl⟩ | ⟨-, tk, -, -, s1, s2, s3, s4, s5, s6, s7, s8, s9, s10⟩
    · exact ⟨rfl, rfl⟩
    · have n1 : ¬ x_sp 35 1 := fun z => by cases z.1
      have n2 : ¬ x_sp 59 25 := fun z => by rcases z.2 with e | e | e | e <;> cases e
      cases tk with
      | true => exact ⟨(s9 rfl).1 _ _ (by decide) n1, (s9 rfl).1 _ _ (by decide) n2⟩
      | false => exact ⟨((s10 rfl).2 _ _ (by decide) n1).2 (fun q z => by cases z), ((s10 rfl).2 _ _ (by decide) n2).2 (fun q z => by cases z)⟩
  rw [d.1, d.2, c.1, c.2, ln]
end YL
