/-! change: what it answers, what it leaves -/
section YG
variable {lL : Nat} {h h1 h2 : mq_H} {Q : Option Value → mq_H → Prop}
theorem y_nI1 (k : Nat) : nI (k + 1) - 1 = nI k := by rw [← nI_1 k]; exact Int32.add_sub_cancel (nI k) 1
def y_gk (p d l : Int32) (C D : Nat → Int32) (pn mn : Nat) : Prop := p = nI pn ∧ pn < 6 ∧ C pn = nI mn ∧ mn < 4 ∧ 1 ≤ d.toInt ∧ d.toInt < 3000 ∧ 0 ≤ l.toInt ∧ l.toInt < 8 ∧ (mn = 0 ∨ (D (4 * pn + mn - 1)).toInt < d.toInt)
def y_sp_chg (p d l : Int32) (C C2 D D2 : Nat → Int32) (v : Option Value) : Prop := (∃ pn mn, y_gk p d l C D pn mn ∧ v = some (.int 1) ∧ (∀ j, C2 j = if j = pn then nI (mn + 1) else C j) ∧ ∀ j, D2 j = if j = 4 * pn + mn then d else D j) ∨ ((∀ pn mn, ¬ y_gk p d l C D pn mn) ∧ v = some (.int 0) ∧ (∀ j, C2 j = C j) ∧ ∀ j, D2 j = D j)
def y_pc_change (p d l a : Int32) (h : mq_H) (v : Option Value) (h2 : mq_H) : Prop := y_sp_chg p d l (mq_I h 9) (mq_I h2 9) (mq_I h 10) (mq_I h2 10) v
def y_pm_change (p d l a : Int32) (h : mq_H) (v : Option Value) (h2 : mq_H) : Prop := y_sp_chg p d l (mq_I h 62) (mq_I h2 62) (mq_I h 63) (mq_I h2 63) v
theorem y_idx {pn mn : Nat} {m : Int32} (em : m = nI mn) : nI pn * 4 + m = nI (4 * pn + mn) := by rw [em, show (4 : Int32) = nI 4 from rfl, nI_mul, nI_add, Nat.mul_comm]
theorem y_c_change (I : ck_Iv x_X h) {p d l a : Int32} (n : Nat) : mq_PC mq_G (mq_tT lL) n 106 [.retAddr 4, .int p, .int d, .int l, .int a] h (y_pc_change p d l a h) := by
  revert n
  unfold y_pc_change
  have no : (∀ pn mn, ¬ y_gk p d l (mq_I h 9) (mq_I h 10) pn mn) → y_sp_chg p d l (mq_I h 9) (mq_I h 9) (mq_I h 10) (mq_I h 10) (some (.int 0)) := fun z => Or.inr ⟨z, rfl, fun _ => rfl, fun _ => rfl⟩
  refine mq_el_in 60 [] (fun n => ?_)
  refine y_wi (k := 6) rfl (fun a1 a2 => ?_) (fun z => bq_t rfl (fun _ => no (fun pn mn y => z (by rw [y.1, nI_toInt (by have := y.2.1; omega)]; have := y.2.1; omega))))
  refine bq_f (by decide) ?_
  refine bq_c (fun c => ?_) (fun c => ?_)
  · rw [lt_i] at c
    have c : d.toInt < 1 := c
    exact fun _ => no (fun pn mn y => by have := y.2.2.2.2.1; omega)
  rw [lt_i] at c
  have c : ¬ d.toInt < 1 := c
  refine bq_c (fun c2 => ?_) (fun c2 => ?_)
  · rw [le_i] at c2
    have c2 : 3000 ≤ d.toInt := c2
    exact fun _ => no (fun pn mn y => by have := y.2.2.2.2.2.1; omega)
  rw [le_i] at c2
  have c2 : ¬ 3000 ≤ d.toInt := c2
  refine y_wi (k := 8) rfl (fun a3 a4 => ?_) (fun z => bn_f rfl (fun _ => no (fun pn mn y => z ⟨y.2.2.2.2.2.2.1, y.2.2.2.2.2.2.2.1⟩)))
  refine bn_t (by decide) ?_
  obtain ⟨pn, rfl, hp, hpi⟩ := x_nat (n := 5) a1 (by omega)
  have m0 := I.1.2 9 6 0 4 rfl pn (by omega)
  obtain ⟨mn, em, hm, hmi⟩ := x_nat (n := 4) m0.1 m0.2
  have cl : (nI pn).toNatClampNeg = pn := nI_clamp (by omega)
  have em2 : mq_I h 9 (nI pn).toNatClampNeg = nI mn := by rw [cl, em]
  have ei := y_idx (pn := pn) em2
  have no2 : ¬ (mn < 4 ∧ (mn = 0 ∨ (mq_I h 10 (4 * pn + mn - 1)).toInt < d.toInt)) → y_sp_chg (nI pn) d l (mq_I h 9) (mq_I h 9) (mq_I h 10) (mq_I h 10) (some (.int 0)) := fun z => no (fun qn kn y => by
    obtain ⟨y1, y2, y3, y4, y5, y6, y7, y8, y9⟩ := y
    rw [nI_eq (by omega) (by omega)] at y1
    subst y1
    rw [em, nI_eq (by omega) (by omega)] at y3
    subst y3
    exact z ⟨y4, y9⟩)
  have pu : ∀ n, mq_PC mq_G (mq_tT lL) n 59 [.retAddr 6, .int (nI pn), .int d, .int l, .int a] h (fun v h2 => y_sp_chg (nI pn) d l (mq_I h 9) (mq_I h2 9) (mq_I h 10) (mq_I h2 10) v ∧ (v = some (.int 0) ∨ v = some (.int 1))) := by
    refine mq_el_in 90 [42] (fun n => ?_)
    intro _
    have k42 : (mn < 4 ∧ (mn = 0 ∨ (mq_I h 10 (4 * pn + mn - 1)).toInt < d.toInt)) → mq_Pn mq_G (mq_tT lL) n 59 42 [some (.retAddr 6), some (.int (nI pn)), some (.int d), some (.int l), some (.int a), some (.int (mq_I h 9 (nI pn).toNatClampNeg)), some (.int (nI pn * 4 + mq_I h 9 (nI pn).toNatClampNeg))] [] h (fun v h2 => y_sp_chg (nI pn) d l (mq_I h 9) (mq_I h2 9) (mq_I h 10) (mq_I h2 10) v ∧ (v = some (.int 0) ∨ v = some (.int 1))) := by
      intro g
      refine (mq_gl (n := n) 60 [] ?_).dn (by omega)
      intro _ _ _ _ _
      refine ⟨Or.inl ⟨pn, mn, ⟨rfl, by omega, em, g.1, by omega, by omega, a3, a4, g.2⟩, rfl, fun j => ?_, fun j => ?_⟩, Or.inr rfl⟩
      · show (if j = (nI pn).toNatClampNeg then mq_I h 9 (nI pn).toNatClampNeg + 1 else mq_I h 9 j) = _
        rw [em2, cl, nI_1]
      · show (if j = (nI pn * 4 + mq_I h 9 (nI pn).toNatClampNeg).toNatClampNeg then d else mq_I h 10 j) = _
        rw [x_cl ei (by omega)]
    refine bq_c (fun c3 => ?_) (fun c3 => ?_)
    · have c3 : (4 : Int32) ≤ mq_I h 9 (nI pn).toNatClampNeg := c3
      rw [em2, le_i, nI_toInt (by omega)] at c3
      have c3 : (4 : Int) ≤ (mn : Int) := c3
      intro _
      exact ⟨no2 (by omega), Or.inl rfl⟩
    · have c3 : ¬ (4 : Int32) ≤ mq_I h 9 (nI pn).toNatClampNeg := c3
      rw [em2, le_i, nI_toInt (by omega)] at c3
      have c3 : ¬ (4 : Int) ≤ (mn : Int) := c3
      refine bq_c (fun c4 => ?_) (fun c4 => ?_)
      · have c4 : mq_I h 9 (nI pn).toNatClampNeg ≤ (0 : Int32) := c4
        rw [em2, le_i, nI_toInt (by omega)] at c4
        have c4 : (mn : Int) ≤ 0 := c4
        exact k42 ⟨by omega, Or.inl (by omega)⟩
      · have c4 : ¬ mq_I h 9 (nI pn).toNatClampNeg ≤ (0 : Int32) := c4
        rw [em2, le_i, nI_toInt (by omega)] at c4
        have c4 : ¬ (mn : Int) ≤ 0 := c4
        intro _
        have cl2 : (nI pn * 4 + mq_I h 9 (nI pn).toNatClampNeg - 1).toNatClampNeg = 4 * pn + mn - 1 := by
          rw [ei, show 4 * pn + mn = (4 * pn + mn - 1) + 1 by omega, y_nI1, nI_clamp (by omega)]
          omega
        refine bq_c (fun c5 => ?_) (fun c5 => ?_)
        · have c5 : mq_I h 10 (nI pn * 4 + mq_I h 9 (nI pn).toNatClampNeg - 1).toNatClampNeg < d := c5
          rw [cl2, lt_i] at c5
          exact k42 ⟨by omega, Or.inr c5⟩
        · have c5 : ¬ mq_I h 10 (nI pn * 4 + mq_I h 9 (nI pn).toNatClampNeg - 1).toNatClampNeg < d := c5
          rw [cl2, lt_i] at c5
          intro _
          exact ⟨no2 (by omega), Or.inl rfl⟩
  refine mq_PC.mono (pu n) (fun v h1 ⟨sp, hv⟩ => ?_)
  rcases hv with rfl | rfl
  · refine bn_f rfl ?_
    intro _
    exact sp
  · refine bn_t (by decide) ?_
    refine mq_PC.mono (y_fa n) (fun v h2 ⟨ev, f⟩ => ?_)
    subst ev
    intro _
    have e1 : mq_I h2 9 = mq_I h1 9 := by funext j; exact f _ _ (by omega)
    have e2 : mq_I h2 10 = mq_I h1 10 := by funext j; exact f _ _ (by omega)
    rw [e1, e2]
    exact sp
theorem y_isPp {n : Nat} {x : Int32} (h1 : 0 ≤ x.toInt → x.toInt ≤ 5 → Q (some (.int 1)) h) (h0 : ¬ (0 ≤ x.toInt ∧ x.toInt ≤ 5) → Q (some (.int 0)) h) : mq_PC mq_G (mq_tT lL) n 139 [.retAddr 59, .int x] h Q := (x_isPlace2 h1 (fun z => h0 (fun y => z y.1 y.2))).pc n
theorem y_isLp {n : Nat} {x : Int32} (h1 : 0 ≤ x.toInt → x.toInt ≤ 7 → Q (some (.int 1)) h) (h0 : ¬ (0 ≤ x.toInt ∧ x.toInt ≤ 7) → Q (some (.int 0)) h) : mq_PC mq_G (mq_tT lL) n 140 [.retAddr 59, .int x] h Q := (x_isLaw2 h1 (fun z => h0 (fun y => z y.1 y.2))).pc n
theorem y_m_change (I : ck_Iv x_X h) {p d l a : Int32} (n : Nat) : mq_PC mq_G (mq_tT lL) n 145 [.retAddr 59, .int p, .int d, .int l, .int a] h (y_pm_change p d l a h) := by
  revert n
  unfold y_pm_change
  have no : (∀ pn mn, ¬ y_gk p d l (mq_I h 62) (mq_I h 63) pn mn) → y_sp_chg p d l (mq_I h 62) (mq_I h 62) (mq_I h 63) (mq_I h 63) (some (.int 0)) := fun z => Or.inr ⟨z, rfl, fun _ => rfl, fun _ => rfl⟩
  refine mq_el_in 90 [81] (fun n => ?_)
  refine y_isPp (fun a1 a2 => ?_) (fun z => bq_t rfl (fun _ => no (fun pn mn y => z (by rw [y.1, nI_toInt (by have := y.2.1; omega)]; have := y.2.1; omega))))
  refine bq_f (by decide) ?_
  refine y_ii (a := 1) (b := 2999) rfl rfl (fun b1 b2 => ?_) (fun z => bq_t rfl (fun _ => no (fun pn mn y => z ⟨y.2.2.2.2.1, by have := y.2.2.2.2.2.1; omega⟩)))
  refine bq_f (by decide) ?_
  refine y_isLp (fun a3 a4 => ?_) (fun z => bq_t rfl (fun _ => no (fun pn mn y => z ⟨y.2.2.2.2.2.2.1, by have := y.2.2.2.2.2.2.2.1; omega⟩)))
  refine bq_f (by decide) ?_
  obtain ⟨pn, rfl, hp, hpi⟩ := x_nat (n := 5) a1 (by omega)
  have m0 := I.1.2 62 6 0 4 rfl pn (by omega)
  obtain ⟨mn, em, hm, hmi⟩ := x_nat (n := 4) m0.1 m0.2
  have cl : (nI pn).toNatClampNeg = pn := nI_clamp (by omega)
  have em2 : mq_I h 62 (nI pn).toNatClampNeg = nI mn := by rw [cl, em]
  have ei : (4 : Int32) * nI pn + mq_I h 62 (nI pn).toNatClampNeg = nI (4 * pn + mn) := by rw [em2, show (4 : Int32) = nI 4 from rfl, nI_mul, nI_add]
  have no2 : ¬ (mn < 4 ∧ (mn = 0 ∨ (mq_I h 63 (4 * pn + mn - 1)).toInt < d.toInt)) → y_sp_chg (nI pn) d l (mq_I h 62) (mq_I h 62) (mq_I h 63) (mq_I h 63) (some (.int 0)) := fun z => no (fun qn kn y => by
    obtain ⟨y1, y2, y3, y4, y5, y6, y7, y8, y9⟩ := y
    rw [nI_eq (by omega) (by omega)] at y1
    subst y1
    rw [em, nI_eq (by omega) (by omega)] at y3
    subst y3
    exact z ⟨y4, y9⟩)
  intro _
  have k81 : (mn < 4 ∧ (mn = 0 ∨ (mq_I h 63 (4 * pn + mn - 1)).toInt < d.toInt)) → mq_Pn mq_G (mq_tT lL) n 145 81 [some (.retAddr 59), some (.int (nI pn)), some (.int d), some (.int l), some (.int a), some (.int ((4 : Int32) * nI pn + mq_I h 62 (nI pn).toNatClampNeg))] [] (mq_setI h 59 0 0) (fun v h2 => y_sp_chg (nI pn) d l (mq_I h 62) (mq_I h2 62) (mq_I h 63) (mq_I h2 63) v) := by
    intro g
    have fin : ∀ h2 : mq_H, (∀ j, mq_I h2 62 j = if j = (nI pn).toNatClampNeg then mq_I h 62 (nI pn).toNatClampNeg + 1 else mq_I h 62 j) → (∀ j, mq_I h2 63 j = if j = ((4 : Int32) * nI pn + mq_I h 62 (nI pn).toNatClampNeg).toNatClampNeg then d else mq_I h 63 j) → y_sp_chg (nI pn) d l (mq_I h 62) (mq_I h2 62) (mq_I h 63) (mq_I h2 63) (some (.int 1)) := by
      intro h2 f1 f2
      refine Or.inl ⟨pn, mn, ⟨rfl, by omega, em, g.1, by omega, by omega, a3, by omega, g.2⟩, rfl, fun j => ?_, fun j => ?_⟩
      · rw [f1, em2, cl, nI_1]
      · rw [f2, x_cl ei (by omega)]
    refine (mq_gl (n := n) 60 [] ?_).dn (by omega)
    intro _ _
    refine bq_c (fun _ => ?_) (fun _ => ?_)
    · intro _ _ _ _
      exact fin _ (fun _ => rfl) (fun _ => rfl)
    · intro _ _ _ _
      exact fin _ (fun _ => rfl) (fun _ => rfl)
  refine bn_c (fun c3 => ?_) (fun c3 => ?_)
  · have c3 : ¬ mq_I h 62 (nI pn).toNatClampNeg = 4 := c3
    have c3 : ¬ mn = 4 := fun z => c3 (by rw [em2, z]; rfl)
    intro _ _
    refine bq_c (fun c4 => ?_) (fun c4 => ?_)
    · have c4 : mq_I h 62 (nI pn).toNatClampNeg ≤ (0 : Int32) := c4
      rw [em2, le_i, nI_toInt (by omega)] at c4
      have c4 : (mn : Int) ≤ 0 := c4
      exact k81 ⟨by omega, Or.inl (by omega)⟩
    · have c4 : ¬ mq_I h 62 (nI pn).toNatClampNeg ≤ (0 : Int32) := c4
      rw [em2, le_i, nI_toInt (by omega)] at c4
      have c4 : ¬ (mn : Int) ≤ 0 := c4
      intro _
      have cl2 : ((4 : Int32) * nI pn + mq_I h 62 (nI pn).toNatClampNeg - 1).toNatClampNeg = 4 * pn + mn - 1 := by
        rw [ei, show 4 * pn + mn = (4 * pn + mn - 1) + 1 by omega, y_nI1, nI_clamp (by omega)]
        omega
      refine bq_c (fun c5 => ?_) (fun c5 => ?_)
      · have c5 : mq_I h 63 ((4 : Int32) * nI pn + mq_I h 62 (nI pn).toNatClampNeg - 1).toNatClampNeg < d := c5
        rw [cl2, lt_i] at c5
        exact k81 ⟨by omega, Or.inr c5⟩
      · have c5 : ¬ mq_I h 63 ((4 : Int32) * nI pn + mq_I h 62 (nI pn).toNatClampNeg - 1).toNatClampNeg < d := c5
        rw [cl2, lt_i] at c5
        intro _
        exact no2 (by omega)
  · have c3 : mq_I h 62 (nI pn).toNatClampNeg = 4 := c3
    have c3 : mn = 4 := by
      rw [em2] at c3
      have := congrArg Int32.toInt c3
      rw [nI_toInt (by omega)] at this
      have : (mn : Int) = 4 := this
      omega
    intro _
    exact no2 (by omega)
theorem y_gk_tr {p d l : Int32} {C D C' D' : Nat → Int32} (hC : ∀ k, k < 6 → C' k = C k) (hD : ∀ k, k < 24 → D' k = D k) {pn mn : Nat} (g : y_gk p d l C D pn mn) : y_gk p d l C' D' pn mn := by
  obtain ⟨y1, y2, y3, y4, y5, y6, y7, y8, y9⟩ := g
  exact ⟨y1, y2, by rw [hC _ y2]; exact y3, y4, y5, y6, y7, y8, by rw [hD _ (by omega)]; exact y9⟩
theorem y_j_change {p d l a r1 r2 : Int32} (cg : y_e_cg (mq_I h) (mq_I h)) (I : ck_Iv x_X h) (m1 : ck_md kc_106.2.2 h h1) (s1 : y_pc_change p d l a h (some (.int r1)) h1) (m2 : ck_md kc_145.2.2 h1 h2) (s2 : y_pm_change p d l a h1 (some (.int r2)) h2) : r1 = r2 ∧ y_e_cg (mq_I h2) (mq_I h2) := by
  obtain ⟨e1, e2⟩ := cg
  have q1 : ∀ j, mq_I h1 62 j = mq_I h 62 j := fun j => m1.2.2.2.2 _ _ (show Nat.testBit _ (ck_lca 62) = false by decide)
  have q2 : ∀ j, mq_I h1 63 j = mq_I h 63 j := fun j => m1.2.2.2.2 _ _ (show Nat.testBit _ (ck_lca 63) = false by decide)
  have q3 : ∀ j, mq_I h2 9 j = mq_I h1 9 j := fun j => m2.2.2.2.2 _ _ (show Nat.testBit _ (ck_lca 9) = false by decide)
  have q4 : ∀ j, mq_I h2 10 j = mq_I h1 10 j := fun j => m2.2.2.2.2 _ _ (show Nat.testBit _ (ck_lca 10) = false by decide)
  rcases s1 with ⟨pn, mn, g1, v1, f1, f2⟩ | ⟨g1, v1, f1, f2⟩ <;> rcases s2 with ⟨qn, kn, g2, v2, t1, t2⟩ | ⟨g2, v2, t1, t2⟩
  · have g3 := y_gk_tr (C' := mq_I h1 62) (D' := mq_I h1 63) (fun k hk => by rw [q1, e1 k hk]) (fun k hk => by rw [q2, e2 k hk]) g1
    have z1 := g3.1
    rw [g2.1, nI_eq (by have := g2.2.1; omega) (by have := g3.2.1; omega)] at z1
    subst z1
    have z2 := g3.2.2.1
    rw [g2.2.2.1, nI_eq (by have := g2.2.2.2.1; omega) (by have := g3.2.2.2.1; omega)] at z2
    subst z2
    exact ⟨(y_vi v1).trans (y_vi v2).symm, fun k hk => by rw [q3, f1, t1, q1, e1 k hk], fun k hk => by rw [q4, f2, t2, q2, e2 k hk]⟩
  · exact absurd (y_gk_tr (C' := mq_I h1 62) (D' := mq_I h1 63) (fun k hk => by rw [q1, e1 k hk]) (fun k hk => by rw [q2, e2 k hk]) g1) (g2 pn mn)
  · exact absurd (y_gk_tr (C' := mq_I h 9) (D' := mq_I h 10) (fun k hk => by rw [q1, e1 k hk]) (fun k hk => by rw [q2, e2 k hk]) g2) (g1 qn kn)
  · exact ⟨(y_vi v1).trans (y_vi v2).symm, fun k hk => by rw [q3, f1, t1, q1, e1 k hk], fun k hk => by rw [q4, f2, t2, q2, e2 k hk]⟩
end YG
