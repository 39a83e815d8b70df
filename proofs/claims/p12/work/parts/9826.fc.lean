/-! fact: what it answers, what it leaves -/
section YF
variable {lL : Nat} {h h1 h2 : mq_H} {Q : Option Value → mq_H → Prop}
def y_fk (c s f t n : Int32) (F : Nat → Int32) (cn mn : Nat) : Prop := c = nI cn ∧ (cn : Int) < n.toInt ∧ 0 ≤ s.toInt ∧ s.toInt < 8 ∧ 0 ≤ f.toInt ∧ f.toInt ≤ t.toInt ∧ t.toInt < 3000 ∧ (s.toInt < 4 ∨ f.toInt = t.toInt) ∧ F cn = nI mn ∧ mn < 12
def y_sp_fact (c s f t n : Int32) (F F2 D D2 : Nat → Int32) (v : Option Value) : Prop := (∃ cn mn, y_fk c s f t n F cn mn ∧ v = some (.int (nI mn)) ∧ (∀ j, F2 j = if j = cn then nI (mn + 1) else F j) ∧ ∀ j, D2 j = if j = 12 * cn + mn then 0 else D j) ∨ ((∀ cn mn, ¬ y_fk c s f t n F cn mn) ∧ v = some (.int (-1)) ∧ (∀ j, F2 j = F j) ∧ ∀ j, D2 j = D j)
def y_pc_fact (c s f t : Int32) (h : mq_H) (v : Option Value) (h2 : mq_H) : Prop := y_sp_fact c s f t (mq_I h 17 0) (mq_I h 25) (mq_I h2 25) (mq_I h 29) (mq_I h2 29) v
def y_pm_fact (c s f t : Int32) (h : mq_H) (v : Option Value) (h2 : mq_H) : Prop := y_sp_fact c s f t (mq_I h 59 9) (mq_I h 71) (mq_I h2 71) (mq_I h 75) (mq_I h2 75) v
theorem y_isCp {n : Nat} {x : Int32} (h1 : 0 ≤ x.toInt → x.toInt < (mq_I h 17 0).toInt → Q (some (.int 1)) h) (h0 : ¬ (0 ≤ x.toInt ∧ x.toInt < (mq_I h 17 0).toInt) → Q (some (.int 0)) h) : mq_PC mq_G (mq_tT lL) n 132 [.retAddr 4, .int x] h Q := (y_isC h1 h0).pc n
theorem y_ncl {cn : Nat} {c n : Int32} (hn : n.toInt ≤ 60) (e : c = nI cn) (h : (cn : Int) < n.toInt) : 0 ≤ c.toInt ∧ c.toInt < n.toInt := by rw [e, nI_toInt (by omega)]; omega
theorem y_c_fact (I : ck_Iv x_X h) {c s f t : Int32} (n : Nat) : mq_PC mq_G (mq_tT lL) n 112 [.retAddr 4, .int c, .int s, .int f, .int t] h (y_pc_fact c s f t h) := by
  have n0 := I.1.1 17 0 0 60 rfl
  revert n
  unfold y_pc_fact
  have no : (∀ cn mn, ¬ y_fk c s f t (mq_I h 17 0) (mq_I h 25) cn mn) → y_sp_fact c s f t (mq_I h 17 0) (mq_I h 25) (mq_I h 25) (mq_I h 29) (mq_I h 29) (some (.int (-1))) := fun z => Or.inr ⟨z, rfl, fun _ => rfl, fun _ => rfl⟩
  refine mq_el_in 60 [61] (fun n => ?_)
  refine y_isCp (fun a1 a2 => ?_) (fun z => bq_t rfl (no (fun cn mn y => z (y_ncl n0.2 y.1 y.2.1))))
  refine bq_f (by decide) ?_
  refine y_wi (k := 8) rfl (fun b1 b2 => ?_) (fun z => bn_f rfl (no (fun cn mn y => z ⟨y.2.2.1, y.2.2.2.1⟩)))
  refine bn_t (by decide) ?_
  refine y_wi (k := 3000) rfl (fun b3 b4 => ?_) (fun z => bq_t rfl (no (fun cn mn y => z (by have := y.2.2.2.2.1; have := y.2.2.2.2.2.1; have := y.2.2.2.2.2.2.1; omega))))
  refine bq_f (by decide) ?_
  refine y_wi (k := 3000) rfl (fun b5 b6 => ?_) (fun z => bq_t rfl (no (fun cn mn y => z (by have := y.2.2.2.2.1; have := y.2.2.2.2.2.1; have := y.2.2.2.2.2.2.1; omega))))
  refine bq_f (by decide) ?_
  obtain ⟨cn, rfl, hc, hci⟩ := x_nat (n := 59) a1 (by omega)
  have m0 := I.1.2 25 60 0 12 rfl cn (by omega)
  obtain ⟨mn, em, hm, hmi⟩ := x_nat (n := 12) m0.1 m0.2
  have cl : (nI cn).toNatClampNeg = cn := nI_clamp (by omega)
  have em2 : mq_I h 25 (nI cn).toNatClampNeg = nI mn := by rw [cl, em]
  have ei : nI cn * 12 + mq_I h 25 (nI cn).toNatClampNeg = nI (12 * cn + mn) := by rw [em2, show (12 : Int32) = nI 12 from rfl, nI_mul, nI_add, Nat.mul_comm]
  have k61 : f.toInt ≤ t.toInt → (s.toInt < 4 ∨ f.toInt = t.toInt) → mq_Pn mq_G (mq_tT lL) n 112 61 [some (.retAddr 4), some (.int (nI cn)), some (.int s), some (.int f), some (.int t), none] [] h (fun v h2 => y_sp_fact (nI cn) s f t (mq_I h 17 0) (mq_I h 25) (mq_I h2 25) (mq_I h 29) (mq_I h2 29) v) := by
    intro g1 g2
    have pu : ∀ n, mq_PC mq_G (mq_tT lL) n 22 [.retAddr 17, .int (nI cn), .int s, .int f, .int t] h (fun v h2 => (mn < 12 ∧ v = some (.int (nI mn)) ∧ (∀ j, mq_I h2 25 j = if j = cn then nI (mn + 1) else mq_I h 25 j) ∧ ∀ j, mq_I h2 29 j = if j = 12 * cn + mn then 0 else mq_I h 29 j) ∨ (¬ mn < 12 ∧ v = some (.int (-1)) ∧ h2 = h)) := by
      refine mq_el_in 90 [] (fun n => ?_)
      intro _
      refine bq_c (fun c3 => ?_) (fun c3 => ?_)
      · have c3 : mq_I h 25 (nI cn).toNatClampNeg < (12 : Int32) := c3
        rw [em2, lt_i, nI_toInt (by omega)] at c3
        have c3 : (mn : Int) < 12 := c3
        intro _ _ _ _ _
        refine Or.inl ⟨by omega, ?_, fun j => ?_, fun j => ?_⟩
        · show some (Value.int (mq_I h 25 (nI cn).toNatClampNeg)) = _
          rw [em2]
        · show (if j = (nI cn).toNatClampNeg then mq_I h 25 (nI cn).toNatClampNeg + 1 else mq_I h 25 j) = _
          rw [em2, cl, nI_1]
        · show (if j = (nI cn * 12 + mq_I h 25 (nI cn).toNatClampNeg).toNatClampNeg then 0 else mq_I h 29 j) = _
          rw [x_cl ei (by omega)]
      · have c3 : ¬ mq_I h 25 (nI cn).toNatClampNeg < (12 : Int32) := c3
        rw [em2, lt_i, nI_toInt (by omega)] at c3
        have c3 : ¬ (mn : Int) < 12 := c3
        exact Or.inr ⟨by omega, rfl, rfl⟩
    refine (mq_gl (n := n) 60 [] ?_).dn (by omega)
    refine mq_PC.mono (pu n) (fun v h1 hv => ?_)
    rcases hv with ⟨g3, rfl, f1, f2⟩ | ⟨g3, rfl, rfl⟩
    · refine bq_f (fun z => ?_) ?_
      · have := congrArg Int32.toInt z
        rw [nI_toInt (by omega)] at this
        have : (mn : Int) = -1 := this
        omega
      · refine mq_PC.mono (y_f1 n) (fun v h2 ⟨ev, f⟩ => ?_)
        subst ev
        exact Or.inl ⟨cn, mn, ⟨rfl, by omega, b1, b2, b3, g1, b6, g2, em, g3⟩, rfl, fun j => (f _ _ (by omega)).trans (f1 j), fun j => (f _ _ (by omega)).trans (f2 j)⟩
    · refine bq_t rfl ?_
      refine no (fun qn kn y => ?_)
      obtain ⟨y1, y2, y3, y4, y5, y6, y7, y8, y9, y10⟩ := y
      rw [nI_eq (by omega) (by omega)] at y1
      subst y1
      rw [em, nI_eq (by omega) (by omega)] at y9
      omega
  refine bq_c (fun c3 => ?_) (fun c3 => ?_)
  · rw [le_i] at c3
    refine bq_c (fun c4 => ?_) (fun c4 => ?_)
    · rw [lt_i] at c4
      have c4 : s.toInt < 4 := c4
      exact k61 c3 (Or.inl c4)
    · rw [lt_i] at c4
      have c4 : ¬ s.toInt < 4 := c4
      refine bq_c (fun c5 => ?_) (fun c5 => ?_)
      · exact k61 c3 (Or.inr (congrArg Int32.toInt c5))
      · have c5 : ¬ f.toInt = t.toInt := y_ne c5 rfl
        exact no (fun cn mn y => by have := y.2.2.2.2.2.2.2.1; omega)
  · rw [le_i] at c3
    exact no (fun cn mn y => by have := y.2.2.2.2.2.1; omega)
theorem y_m_fact (I : ck_Iv x_X h) {c s f t : Int32} (n : Nat) : mq_PC mq_G (mq_tT lL) n 148 [.retAddr 59, .int c, .int s, .int f, .int t] h (y_pm_fact c s f t h) := by
  have n0 := I.1.1 59 9 0 60 rfl
  revert n
  unfold y_pm_fact
  have no : (∀ cn mn, ¬ y_fk c s f t (mq_I h 59 9) (mq_I h 71) cn mn) → y_sp_fact c s f t (mq_I h 59 9) (mq_I h 71) (mq_I h 71) (mq_I h 75) (mq_I h 75) (some (.int (-1))) := fun z => Or.inr ⟨z, rfl, fun _ => rfl, fun _ => rfl⟩
  refine mq_el_in 60 [58] (fun n => ?_)
  refine y_isMp (fun a1 a2 => ?_) (fun z => bq_t rfl (no (fun cn mn y => z (y_ncl n0.2 y.1 y.2.1))))
  have a2 : c.toInt < (mq_I h 59 9).toInt := a2
  refine bq_f (by decide) ?_
  refine y_ii (a := 0) (b := 7) rfl rfl (fun b1 b2 => ?_) (fun z => bq_t rfl (no (fun cn mn y => z ⟨y.2.2.1, by have := y.2.2.2.1; omega⟩)))
  refine bq_f (by decide) ?_
  refine y_ii (a := 0) (b := 2999) rfl rfl (fun b3 b4 => ?_) (fun z => bq_t rfl (no (fun cn mn y => z (by have := y.2.2.2.2.1; have := y.2.2.2.2.2.1; have := y.2.2.2.2.2.2.1; omega))))
  refine bq_f (by decide) ?_
  obtain ⟨cn, rfl, hc, hci⟩ := x_nat (n := 59) a1 (by omega)
  have m0 := I.1.2 71 60 0 12 rfl cn (by omega)
  obtain ⟨mn, em, hm, hmi⟩ := x_nat (n := 12) m0.1 m0.2
  have cl : (nI cn).toNatClampNeg = cn := nI_clamp (by omega)
  have em2 : mq_I h 71 (nI cn).toNatClampNeg = nI mn := by rw [cl, em]
  have ei : (12 : Int32) * nI cn + mq_I h 71 (nI cn).toNatClampNeg = nI (12 * cn + mn) := by rw [em2, show (12 : Int32) = nI 12 from rfl, nI_mul, nI_add]
  have k58 : f.toInt ≤ t.toInt → t.toInt < 3000 → (s.toInt < 4 ∨ f.toInt = t.toInt) → mq_Pn mq_G (mq_tT lL) n 148 58 [some (.retAddr 59), some (.int (nI cn)), some (.int s), some (.int f), some (.int t), none] [] (mq_setI h 59 0 0) (fun v h2 => y_sp_fact (nI cn) s f t (mq_I h 59 9) (mq_I h 71) (mq_I h2 71) (mq_I h 75) (mq_I h2 75) v) := by
    intro g1 g0 g2
    refine (mq_gl (n := n) 120 [] ?_).dn (by omega)
    intro _
    refine bn_c (fun c3 => ?_) (fun c3 => ?_)
    · have c3 : ¬ mq_I h 71 (nI cn).toNatClampNeg = 12 := c3
      have c3 : ¬ mn = 12 := fun z => c3 (by rw [em2, z]; rfl)
      intro _ _ _ _ _ _ _ _
      refine Or.inl ⟨cn, mn, ⟨rfl, by omega, b1, by omega, b3, g1, g0, g2, em, by omega⟩, ?_, fun j => ?_, fun j => ?_⟩
      · show some (Value.int ((if (nI cn).toNatClampNeg = (nI cn).toNatClampNeg then mq_I h 71 (nI cn).toNatClampNeg + 1 else mq_I h 71 (nI cn).toNatClampNeg) - 1)) = _
        rw [if_pos rfl, em2, nI_1, y_nI1]
      · show (if j = (nI cn).toNatClampNeg then mq_I h 71 (nI cn).toNatClampNeg + 1 else mq_I h 71 j) = _
        rw [em2, cl, nI_1]
      · show (if j = ((12 : Int32) * nI cn + mq_I h 71 (nI cn).toNatClampNeg).toNatClampNeg then 0 else mq_I h 75 j) = _
        rw [x_cl ei (by omega)]
    · have c3 : mq_I h 71 (nI cn).toNatClampNeg = 12 := c3
      have c3 : mn = 12 := by
        rw [em2] at c3
        have := congrArg Int32.toInt c3
        rw [nI_toInt (by omega)] at this
        have : (mn : Int) = 12 := this
        omega
      refine no (fun qn kn y => ?_)
      obtain ⟨y1, y2, y3, y4, y5, y6, y7, y8, y9, y10⟩ := y
      rw [nI_eq (by omega) (by omega)] at y1
      subst y1
      rw [em, nI_eq (by omega) (by omega)] at y9
      omega
  refine bq_c (fun c3 => ?_) (fun c3 => ?_)
  · rw [lt_i] at c3
    have c3 : s.toInt < 4 := c3
    refine y_ii (a := f.toInt) (b := 2999) rfl rfl (fun b5 b6 => ?_) (fun z => bq_t rfl (no (fun cn mn y => z (by have := y.2.2.2.2.2.1; have := y.2.2.2.2.2.2.1; omega))))
    refine bq_f (by decide) ?_
    exact k58 b5 (by omega) (Or.inl c3)
  · rw [lt_i] at c3
    have c3 : ¬ s.toInt < 4 := c3
    refine y_ii (a := f.toInt) (b := f.toInt) rfl rfl (fun b5 b6 => ?_) (fun z => bq_t rfl (no (fun cn mn y => z (by have := y.2.2.2.2.2.1; have := y.2.2.2.2.2.2.2.1; omega))))
    refine bq_f (by decide) ?_
    exact k58 b5 (by omega) (Or.inr (by omega))
theorem y_fk_tr {c s f t n : Int32} {F F' : Nat → Int32} (hn : n.toInt ≤ 60) (hF : ∀ k, k < 60 → F' k = F k) {cn mn : Nat} (g : y_fk c s f t n F cn mn) : y_fk c s f t n F' cn mn := by
  obtain ⟨y1, y2, y3, y4, y5, y6, y7, y8, y9, y10⟩ := g
  exact ⟨y1, y2, y3, y4, y5, y6, y7, y8, by rw [hF _ (by omega)]; exact y9, y10⟩
theorem y_j_fact {c s f t r1 r2 : Int32} (ct : y_e_ct (mq_I h) (mq_I h)) (fc : y_e_fc (mq_I h) (mq_I h)) (I : ck_Iv x_X h) (m1 : ck_md kc_112.2.2 h h1) (s1 : y_pc_fact c s f t h (some (.int r1)) h1) (m2 : ck_md kc_148.2.2 h1 h2) (s2 : y_pm_fact c s f t h1 (some (.int r2)) h2) : r1 = r2 ∧ y_e_fc (mq_I h2) (mq_I h2) ∧ (y_e_fd (mq_I h) (mq_I h) → y_e_fd (mq_I h2) (mq_I h2)) := by
  have n0 := I.1.1 17 0 0 60 rfl
  have ct : mq_I h 17 0 = mq_I h 59 9 := ct
  have fc : ∀ k, k < 60 → mq_I h 25 k = mq_I h 71 k := fc
  have q0 : mq_I h1 59 9 = mq_I h 59 9 := m1.2.2.2.2 _ _ (by decide)
  have q1 : ∀ j, mq_I h1 71 j = mq_I h 71 j := fun j => m1.2.2.2.2 _ _ (show Nat.testBit _ (ck_lca 71) = false by decide)
  have q2 : ∀ j, mq_I h1 75 j = mq_I h 75 j := fun j => m1.2.2.2.2 _ _ (show Nat.testBit _ (ck_lca 75) = false by decide)
  have q3 : ∀ j, mq_I h2 25 j = mq_I h1 25 j := fun j => m2.2.2.2.2 _ _ (show Nat.testBit _ (ck_lca 25) = false by decide)
  have q4 : ∀ j, mq_I h2 29 j = mq_I h1 29 j := fun j => m2.2.2.2.2 _ _ (show Nat.testBit _ (ck_lca 29) = false by decide)
  unfold y_pm_fact at s2
  rw [q0, ← ct] at s2
  rcases s1 with ⟨pn, mn, g1, v1, f1, f2⟩ | ⟨g1, v1, f1, f2⟩ <;> rcases s2 with ⟨qn, kn, g2, v2, t1, t2⟩ | ⟨g2, v2, t1, t2⟩
  · have g3 := y_fk_tr (F' := mq_I h1 71) n0.2 (fun k hk => by rw [q1, fc k hk]) g1
    have z1 := g3.1
    rw [g2.1, nI_eq (by have := g2.2.1; omega) (by have := g3.2.1; omega)] at z1
    subst z1
    have z2 := g3.2.2.2.2.2.2.2.2.1
    rw [g2.2.2.2.2.2.2.2.2.1, nI_eq (by have := g2.2.2.2.2.2.2.2.2.2; omega) (by have := g3.2.2.2.2.2.2.2.2.2; omega)] at z2
    subst z2
    exact ⟨(y_vi v1).trans (y_vi v2).symm, fun k hk => by rw [q3, f1, t1, q1, fc k hk], fun fd k hk => by rw [q4, f2, t2, q2, fd k hk]⟩
  · exact absurd (y_fk_tr (F' := mq_I h1 71) n0.2 (fun k hk => by rw [q1, fc k hk]) g1) (g2 pn mn)
  · exact absurd (y_fk_tr (F' := mq_I h 25) n0.2 (fun k hk => by rw [q1, fc k hk]) g2) (g1 qn kn)
  · exact ⟨(y_vi v1).trans (y_vi v2).symm, fun k hk => by rw [q3, f1, t1, q1, fc k hk], fun fd k hk => by rw [q4, f2, t2, q2, fd k hk]⟩
end YF
