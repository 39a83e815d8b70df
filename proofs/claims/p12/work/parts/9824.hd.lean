/-! holiday: what it answers, what it leaves -/
section YH
variable {lL : Nat} {h h1 h2 : mq_H} {Q : Option Value → mq_H → Prop}
theorem y_fill {c : Nat} (hc : c = 50 ∨ c = 53) {x : Int32} (n : Nat) : mq_PC mq_G (mq_tT lL) n 230 [.retAddr c, .int x] h (fun v h2 => v = none ∧ ∀ a k, ¬ a = c → mq_I h2 a k = mq_I h a k) := by
  have lp : ∀ (n : Nat) (y z : Int32) (h1 : mq_H), (∀ a k, ¬ a = c → mq_I h1 a k = mq_I h a k) → mq_Pn mq_G (mq_tT lL) n 230 5 [some (.retAddr c), some (.int x), some (.int y), some (.int z)] [] h1 (fun v h2 => v = none ∧ ∀ a k, ¬ a = c → mq_I h2 a k = mq_I h a k) := by
    intro n
    induction n with
    | zero => intro y z h1 _; exact mq_Pn.z
    | succ n ih =>
      intro y z h1 f
      rcases hc with rfl | rfl
      · refine mq_gl 60 [5] ?_
        refine bq_c (fun _ => ?_) (fun _ => ?_)
        · exact ⟨rfl, f⟩
        · intro _
          exact ih _ _ _ (fun a k ha => (ck_setI_at (fun z => ha z.1)).trans (f a k ha))
      · refine mq_gl 60 [5] ?_
        refine bq_c (fun _ => ?_) (fun _ => ?_)
        · exact ⟨rfl, f⟩
        · intro _
          exact ih _ _ _ (fun a k ha => (ck_setI_at (fun z => ha z.1)).trans (f a k ha))
  revert n
  rcases hc with rfl | rfl
  · refine mq_el_in 40 [5] (fun n => ?_)
    intro _
    exact lp n _ _ _ (fun _ _ _ => rfl)
  · refine mq_el_in 40 [5] (fun n => ?_)
    intro _
    exact lp n _ _ _ (fun _ _ _ => rfl)
theorem y_fa (n : Nat) : mq_PC mq_G (mq_tT lL) n 45 [.retAddr 49] h (fun v h2 => v = none ∧ ∀ a k, a < 50 ∨ 53 < a → mq_I h2 a k = mq_I h a k) := by
  revert n
  refine mq_el_in 40 [] (fun n => ?_)
  refine mq_PC.mono (y_fill (Or.inr rfl) n) (fun v h1 ⟨ev, f1⟩ => ?_)
  subst ev
  refine mq_PC.mono (y_fill (Or.inl rfl) n) (fun v h2 ⟨ev, f2⟩ => ?_)
  subst ev
  exact ⟨rfl, fun a k ha => (f2 a k (by omega)).trans (f1 a k (by omega))⟩
def y_hf (n : Int32) (f : Nat → Int32) (d : Int32) : Prop := ∃ k : Nat, (k : Int) < n.toInt ∧ f k = d
def y_sp_hol (d n n2 : Int32) (f f2 : Nat → Int32) (v : Option Value) : Prop := (¬ (0 ≤ d.toInt ∧ d.toInt < 5000) ∧ v = some (.int 0) ∧ n2 = n ∧ ∀ j, f2 j = f j) ∨ ((0 ≤ d.toInt ∧ d.toInt < 5000) ∧ y_hf n f d ∧ v = some (.int 1) ∧ n2 = n ∧ ∀ j, f2 j = f j) ∨ ((0 ≤ d.toInt ∧ d.toInt < 5000) ∧ ¬ y_hf n f d ∧ ¬ n.toInt < 20 ∧ v = some (.int 0) ∧ n2 = n ∧ ∀ j, f2 j = f j) ∨ ((0 ≤ d.toInt ∧ d.toInt < 5000) ∧ ¬ y_hf n f d ∧ n.toInt < 20 ∧ v = some (.int 1) ∧ n2 = n + 1 ∧ ∀ j, f2 j = if j = n.toNatClampNeg then d else f j)
def y_pc_holiday (d : Int32) (h : mq_H) (v : Option Value) (h2 : mq_H) : Prop := y_sp_hol d (mq_I h 6 1) (mq_I h2 6 1) (mq_I h 7) (mq_I h2 7) v
def y_pm_holiday (d : Int32) (h : mq_H) (v : Option Value) (h2 : mq_H) : Prop := y_sp_hol d (mq_I h 59 2) (mq_I h2 59 2) (mq_I h 60) (mq_I h2 60) v
theorem y_ish (I : ck_Iv x_X h) {d : Int32} (n : Nat) : mq_PC mq_G (mq_tT lL) n 57 [.retAddr 6, .int d] h (fun v h2 => h2 = h ∧ ((y_hf (mq_I h 6 1) (mq_I h 7) d ∧ v = some (.int 1)) ∨ (¬ y_hf (mq_I h 6 1) (mq_I h 7) d ∧ v = some (.int 0)))) := by
  have n0 := I.1.1 6 1 0 20 rfl
  have lp : ∀ (n k : Nat) (y : Int32), y = nI k → (k : Int) ≤ (mq_I h 6 1).toInt → (∀ j, j < k → ¬ mq_I h 7 j = d) → mq_Pn mq_G (mq_tT lL) n 57 2 [some (.retAddr 6), some (.int d), some (.int y)] [] h (fun v h2 => h2 = h ∧ ((y_hf (mq_I h 6 1) (mq_I h 7) d ∧ v = some (.int 1)) ∨ (¬ y_hf (mq_I h 6 1) (mq_I h 7) d ∧ v = some (.int 0)))) := by
    intro n
    induction n with
    | zero => intro k y _ _ _; exact mq_Pn.z
    | succ n ih =>
      intro k y ey hk H
      subst ey
      refine mq_gl 60 [2] ?_
      refine bq_c (fun c => ?_) (fun c => ?_)
      · have c : mq_I h 6 1 ≤ nI k := c
        rw [le_i, nI_toInt (by omega)] at c
        intro _
        exact ⟨rfl, Or.inr ⟨fun ⟨j, j1, j2⟩ => H j (by omega) j2, rfl⟩⟩
      · have c : ¬ mq_I h 6 1 ≤ nI k := c
        rw [le_i, nI_toInt (by omega)] at c
        intro _
        rw [nI_clamp (by omega)]
        refine bn_c (fun e => ?_) (fun e => ?_)
        · exact ih (k + 1) _ (nI_1 _) (by omega) (fun j hj => by
            rcases Nat.lt_or_ge j k with q | q
            · exact H j q
            · have : j = k := by omega
              rw [this]
              exact e)
        · intro _
          exact ⟨rfl, Or.inl ⟨⟨k, by omega, e⟩, rfl⟩⟩
  revert n
  refine mq_el_in 40 [2] (fun n => ?_)
  exact lp n 0 _ rfl (by omega) (fun j hj => by omega)
theorem y_c_holiday (I : ck_Iv x_X h) {d : Int32} (n : Nat) : mq_PC mq_G (mq_tT lL) n 104 [.retAddr 4, .int d] h (y_pc_holiday d h) := by
  revert n
  unfold y_pc_holiday
  refine mq_el_in 60 [] (fun n => ?_)
  refine y_wi (k := 5000) rfl (fun a1 a2 => ?_) (fun z => bq_t rfl (fun _ => Or.inl ⟨z, rfl, rfl, fun _ => rfl⟩))
  refine bq_f (by decide) ?_
  have pu : ∀ n, mq_PC mq_G (mq_tT lL) n 56 [.retAddr 6, .int d] h (fun v h2 => y_sp_hol d (mq_I h 6 1) (mq_I h2 6 1) (mq_I h 7) (mq_I h2 7) v ∧ (v = some (.int 0) ∨ v = some (.int 1))) := by
    refine mq_el_in 60 [] (fun n => ?_)
    refine mq_PC.mono (y_ish I n) (fun v h2 ⟨eh, hv⟩ => ?_)
    subst eh
    rcases hv with ⟨hf, rfl⟩ | ⟨hf, rfl⟩
    · refine bq_f (by decide) ?_
      intro _
      exact ⟨Or.inr (Or.inl ⟨⟨a1, a2⟩, hf, rfl, rfl, fun _ => rfl⟩), Or.inr rfl⟩
    · refine bq_t rfl ?_
      refine bq_c (fun c => ?_) (fun c => ?_)
      · rw [lt_i] at c
        have c : (mq_I h2 6 1).toInt < 20 := c
        intro _ _
        exact ⟨Or.inr (Or.inr (Or.inr ⟨⟨a1, a2⟩, hf, c, rfl, rfl, fun _ => rfl⟩)), Or.inr rfl⟩
      · rw [lt_i] at c
        have c : ¬ (mq_I h2 6 1).toInt < 20 := c
        intro _
        exact ⟨Or.inr (Or.inr (Or.inl ⟨⟨a1, a2⟩, hf, c, rfl, rfl, fun _ => rfl⟩)), Or.inl rfl⟩
  refine mq_PC.mono (pu n) (fun v h1 ⟨sp, hv⟩ => ?_)
  rcases hv with rfl | rfl
  · refine bn_f rfl ?_
    intro _
    exact sp
  · refine bn_t (by decide) ?_
    refine mq_PC.mono (y_fa n) (fun v h2 ⟨ev, f⟩ => ?_)
    subst ev
    intro _
    have e1 : mq_I h2 6 1 = mq_I h1 6 1 := f _ _ (by omega)
    have e2 : mq_I h2 7 = mq_I h1 7 := by funext j; exact f _ _ (by omega)
    rw [e1, e2]
    exact sp
theorem y_m_holiday (I : ck_Iv x_X h) {d : Int32} (n : Nat) : mq_PC mq_G (mq_tT lL) n 142 [.retAddr 59, .int d] h (y_pm_holiday d h) := by
  have n0 := I.1.1 59 2 0 20 rfl
  revert n
  unfold y_pm_holiday
  refine mq_el_in 60 [21] (fun n => ?_)
  refine y_ii (a := 0) (b := 4999) rfl rfl (fun a1 a2 => ?_) (fun z => bn_f rfl (fun _ => Or.inl ⟨fun y => z ⟨y.1, by omega⟩, rfl, rfl, fun _ => rfl⟩))
  refine bn_t (by decide) ?_
  have lp : ∀ (n k : Nat) (y : Int32), y = nI k → (k : Int) ≤ (mq_I h 59 2).toInt → (∀ j, j < k → ¬ mq_I h 60 j = d) → mq_Pn mq_G (mq_tT lL) n 142 21 [some (.retAddr 59), some (.int d), some (.int y)] [] (mq_setI h 59 0 0) (fun v h2 => y_sp_hol d (mq_I h 59 2) (mq_I h2 59 2) (mq_I h 60) (mq_I h2 60) v) := by
    intro n
    induction n with
    | zero => intro k y _ _ _; exact mq_Pn.z
    | succ n ih =>
      intro k y ey hk H
      subst ey
      refine mq_gl 60 [21] ?_
      refine bq_c (fun c => ?_) (fun c => ?_)
      · have c : mq_I h 59 2 ≤ nI k := c
        rw [le_i, nI_toInt (by omega)] at c
        have nf : ¬ y_hf (mq_I h 59 2) (mq_I h 60) d := fun ⟨j, j1, j2⟩ => H j (by omega) j2
        refine bn_c (fun e => ?_) (fun e => ?_)
        · have e : ¬ (mq_I h 59 2).toInt = 20 := fun z => e (x_toI z rfl)
          intro _ _
          exact Or.inr (Or.inr (Or.inr ⟨⟨a1, by omega⟩, nf, by omega, rfl, rfl, fun _ => rfl⟩))
        · have e : (mq_I h 59 2).toInt = 20 := congrArg Int32.toInt e
          intro _
          exact Or.inr (Or.inr (Or.inl ⟨⟨a1, by omega⟩, nf, by omega, rfl, rfl, fun _ => rfl⟩))
      · have c : ¬ mq_I h 59 2 ≤ nI k := c
        rw [le_i, nI_toInt (by omega)] at c
        intro _
        rw [nI_clamp (by omega)]
        refine bn_c (fun e => ?_) (fun e => ?_)
        · have e : ¬ mq_I h 60 k = d := e
          exact ih (k + 1) _ (nI_1 _) (by omega) (fun j hj => by
            rcases Nat.lt_or_ge j k with q | q
            · exact H j q
            · have : j = k := by omega
              rw [this]
              exact e)
        · have e : mq_I h 60 k = d := e
          intro _
          exact Or.inr (Or.inl ⟨⟨a1, by omega⟩, ⟨k, by omega, e⟩, rfl, rfl, fun _ => rfl⟩)
  exact lp n 0 _ rfl (by omega) (fun j hj => by omega)
theorem y_j_holiday {d r1 r2 : Int32} (hd : y_e_hd (mq_I h) (mq_I h)) (I : ck_Iv x_X h) (m1 : ck_md kc_104.2.2 h h1) (s1 : y_pc_holiday d h (some (.int r1)) h1) (m2 : ck_md kc_142.2.2 h1 h2) (s2 : y_pm_holiday d h1 (some (.int r2)) h2) : r1 = r2 ∧ y_e_hd (mq_I h2) (mq_I h2) := by
  have n0 := I.1.1 6 1 0 20 rfl
  obtain ⟨e1, e2⟩ := hd
  have q1 : mq_I h1 59 2 = mq_I h 59 2 := m1.2.2.2.2 _ _ (by decide)
  have q2 : mq_I h2 6 1 = mq_I h1 6 1 := m2.2.2.2.2 _ _ (by decide)
  have q3 : ∀ j, mq_I h1 60 j = mq_I h 60 j := fun j => m1.2.2.2.2 _ _ (show Nat.testBit _ (ck_lca 60) = false by decide)
  have q4 : ∀ j, mq_I h2 7 j = mq_I h1 7 j := fun j => m2.2.2.2.2 _ _ (show Nat.testBit _ (ck_lca 7) = false by decide)
  unfold y_pc_holiday y_sp_hol at s1
  unfold y_pm_holiday y_sp_hol at s2
  rw [q1, ← e1] at s2
  have hf : y_hf (mq_I h 6 1) (mq_I h1 60) d ↔ y_hf (mq_I h 6 1) (mq_I h 7) d := by
    refine ⟨fun ⟨k, k1, k2⟩ => ⟨k, k1, ?_⟩, fun ⟨k, k1, k2⟩ => ⟨k, k1, ?_⟩⟩
    · rw [e2 k (by omega), ← q3]; exact k2
    · rw [q3, ← e2 k (by omega)]; exact k2
  rw [hf] at s2
  have fin : ∀ {n1 n2 : Int32}, n1 = n2 → (∀ j, j < 20 → mq_I h1 7 j = mq_I h2 60 j) → mq_I h1 6 1 = n1 → mq_I h2 59 2 = n2 → y_e_hd (mq_I h2) (mq_I h2) := fun a b c d => ⟨by rw [q2, c, d, a], fun j hj => by rw [q4]; exact b j hj⟩
  rcases s1 with ⟨o1, v1, n1, f1⟩ | ⟨o1, p1, v1, n1, f1⟩ | ⟨o1, p1, l1, v1, n1, f1⟩ | ⟨o1, p1, l1, v1, n1, f1⟩ <;> rcases s2 with ⟨o2, v2, n2, f2⟩ | ⟨o2, p2, v2, n2, f2⟩ | ⟨o2, p2, l2, v2, n2, f2⟩ | ⟨o2, p2, l2, v2, n2, f2⟩
  all_goals first
    | exact absurd o1 o2
    | exact absurd o2 o1
    | exact absurd p1 p2
    | exact absurd p2 p1
    | exact absurd l1 l2
    | exact absurd l2 l1
    | exact ⟨(y_vi v1).trans (y_vi v2).symm, fin rfl (fun j hj => by rw [f1, f2, q3, e2 j hj]) n1 n2⟩
end YH
