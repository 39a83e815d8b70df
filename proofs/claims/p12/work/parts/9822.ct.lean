/-! claims told: how many there are; want, act, claim: what they answer, what they leave -/
section YC
variable {lL : Nat} {h h1 h2 : mq_H} {Q : Option Value → mq_H → Prop}
theorem y_wi {x c : Int32} {k : Int} (hk : c.toInt = k) {n : Nat} (h1 : 0 ≤ x.toInt → x.toInt < k → Q (some (.int 1)) h) (h0 : ¬ (0 ≤ x.toInt ∧ x.toInt < k) → Q (some (.int 0)) h) : mq_PC mq_G (mq_tT lL) n 135 [.int x, .int c] h Q := by
  subst hk
  exact (c_within h1 (fun z => h0 (fun y => z y.1 y.2))).pc n
theorem y_ii {x l u : Int32} {a b : Int} (ha : l.toInt = a) (hb : u.toInt = b) {n : Nat} (h1 : a ≤ x.toInt → x.toInt ≤ b → Q (some (.int 1)) h) (h0 : ¬ (a ≤ x.toInt ∧ x.toInt ≤ b) → Q (some (.int 0)) h) : mq_PC mq_G (mq_tT lL) n 137 [.retAddr 59, .int x, .int l, .int u] h Q := by
  subst ha hb
  exact (x_isIn h1 (fun z => h0 (fun y => z y.1 y.2))).pc n
theorem y_isC {x : Int32} (h1 : 0 ≤ x.toInt → x.toInt < (mq_I h 17 0).toInt → Q (some (.int 1)) h) (h0 : ¬ (0 ≤ x.toInt ∧ x.toInt < (mq_I h 17 0).toInt) → Q (some (.int 0)) h) : mq_Call mq_G (mq_tT lL) 132 [.retAddr 4, .int x] h Q := by
  apply mq_enter 40 []
  refine c_within (fun a b => ?_) (fun a => ?_)
  · exact gq_i rfl (h1 a b)
  · exact gq_i rfl (h0 (fun y => a y.1 y.2))
theorem y_isM {x : Int32} (h1 : 0 ≤ x.toInt → x.toInt < (mq_I h 59 9).toInt → Q (some (.int 1)) h) (h0 : ¬ (0 ≤ x.toInt ∧ x.toInt < (mq_I h 59 9).toInt) → Q (some (.int 0)) h) : mq_Call mq_G (mq_tT lL) 146 [.retAddr 59, .int x] h Q := by
  apply mq_enter 40 []
  refine bq_c (fun c => ?_) (fun c => ?_)
  · rw [lt_i] at c
    have c : x.toInt < 0 := c
    exact gq_i rfl (h0 (fun z => by omega))
  · rw [lt_i] at c
    have c : ¬ x.toInt < 0 := c
    refine bq_c (fun c2 => ?_) (fun c2 => ?_)
    · rw [le_i] at c2
      exact gq_i rfl (h0 (fun z => by omega))
    · rw [le_i] at c2
      exact gq_i rfl (h1 (by omega) (by omega))
theorem x_isPlace2 {x : Int32} (h1 : 0 ≤ x.toInt → x.toInt ≤ 5 → Q (some (.int 1)) h) (h0 : (0 ≤ x.toInt → ¬ x.toInt ≤ 5) → Q (some (.int 0)) h) : mq_Call mq_G (mq_tT lL) 139 [.retAddr 59, .int x] h Q := by
  apply mq_enter 40 []
  refine bq_c (fun c => ?_) (fun c => ?_)
  · rw [lt_i] at c
    have c : x.toInt < 0 := c
    exact gq_i rfl (h0 (fun z => by omega))
  · rw [lt_i] at c
    have c : ¬ x.toInt < 0 := c
    refine bq_c (fun c2 => ?_) (fun c2 => ?_)
    · rw [le_i] at c2
      have c2 : (6 : Int) ≤ x.toInt := c2
      exact gq_i rfl (h0 (fun _ z => by omega))
    · rw [le_i] at c2
      have c2 : ¬ (6 : Int) ≤ x.toInt := c2
      exact gq_i rfl (h1 (by omega) (by omega))
theorem x_isLaw2 {x : Int32} (h1 : 0 ≤ x.toInt → x.toInt ≤ 7 → Q (some (.int 1)) h) (h0 : (0 ≤ x.toInt → ¬ x.toInt ≤ 7) → Q (some (.int 0)) h) : mq_Call mq_G (mq_tT lL) 140 [.retAddr 59, .int x] h Q := by
  apply mq_enter 40 []
  refine bq_c (fun c => ?_) (fun c => ?_)
  · rw [lt_i] at c
    have c : x.toInt < 0 := c
    exact gq_i rfl (h0 (fun z => by omega))
  · rw [lt_i] at c
    have c : ¬ x.toInt < 0 := c
    refine bq_c (fun c2 => ?_) (fun c2 => ?_)
    · rw [le_i] at c2
      have c2 : (8 : Int) ≤ x.toInt := c2
      exact gq_i rfl (h0 (fun _ z => by omega))
    · rw [le_i] at c2
      have c2 : ¬ (8 : Int) ≤ x.toInt := c2
      exact gq_i rfl (h1 (by omega) (by omega))
/-- want -/
def y_wn (n c : Int32) : Int32 := if 0 ≤ c.toInt ∧ c.toInt < n.toInt then 1 else 0
def y_pc_want (c b : Int32) (h : mq_H) (v : Option Value) (h2 : mq_H) : Prop := v = some (.int (y_wn (mq_I h 17 0) c))
def y_pm_want (c b : Int32) (h : mq_H) (v : Option Value) (h2 : mq_H) : Prop := v = some (.int (y_wn (mq_I h 59 9) c))
theorem y_c_want (_ : ck_Iv x_X h) {c b : Int32} (n : Nat) : mq_PC mq_G (mq_tT lL) n 121 [.retAddr 4, .int c, .int b] h (y_pc_want c b h) := by
  revert n
  unfold y_pc_want
  refine mq_el_in 60 [] (fun n => ?_)
  refine (y_isC (fun a b => ?_) (fun a => ?_)).pc n
  · refine bn_t (by decide) ?_
    intro _ _
    unfold y_wn
    rw [if_pos ⟨a, b⟩]
  · refine bn_f rfl ?_
    intro _
    unfold y_wn
    rw [if_neg a]
theorem y_m_want (_ : ck_Iv x_X h) {c b : Int32} (n : Nat) : mq_PC mq_G (mq_tT lL) n 151 [.retAddr 59, .int c, .int b] h (y_pm_want c b h) := by
  revert n
  unfold y_pm_want
  refine mq_el_in 60 [] (fun n => ?_)
  refine (y_isM (fun a b => ?_) (fun a => ?_)).pc n
  · refine bn_t (by decide) ?_
    have e : y_wn (mq_I h 59 9) c = 1 := if_pos ⟨a, b⟩
    rw [e]
    refine bq_c (fun _ => ?_) (fun _ => ?_)
    · intro _ _
      rfl
    · intro _ _
      rfl
  · refine bn_f rfl ?_
    intro _
    have e : y_wn (mq_I h 59 9) c = 0 := if_neg a
    rw [e]
/-- claim -/
theorem y_f1 {x : Int32} (n : Nat) : mq_PC mq_G (mq_tT lL) n 46 [.retAddr 49, .int x] h (fun v h2 => v = none ∧ ∀ a k, a < 50 ∨ 53 < a → mq_I h2 a k = mq_I h a k) := by
  revert n
  refine mq_el_in 60 [] (fun n => ?_)
  intro _ _
  exact ⟨rfl, fun a k ha => (ck_setI_at (fun z => by have := z.1; omega)).trans (ck_setI_at (fun z => by have := z.1; omega))⟩
def y_okc (n p k s d e u : Int32) : Prop := 0 ≤ p.toInt ∧ p.toInt < 6 ∧ 0 ≤ k.toInt ∧ k.toInt < 10 ∧ 0 ≤ s.toInt ∧ s.toInt < 10000 ∧ 0 ≤ d.toInt ∧ d.toInt < 3000 ∧ d.toInt ≤ e.toInt ∧ e.toInt < 3000 ∧ d.toInt ≤ u.toInt ∧ u.toInt < 3000 ∧ n.toInt < 60
def y_sp_claim (n n2 : Int32) (f f2 : Nat → Int32) (v : Option Value) (p k s d e u : Int32) : Prop := (y_okc n p k s d e u ∧ v = some (.int n) ∧ n2 = n + 1 ∧ ∀ j, f2 j = if j = n.toNatClampNeg then 0 else f j) ∨ (¬ y_okc n p k s d e u ∧ v = some (.int (-1)) ∧ n2 = n ∧ ∀ j, f2 j = f j)
def y_pc_claim (p k s d e u : Int32) (h : mq_H) (v : Option Value) (h2 : mq_H) : Prop := y_sp_claim (mq_I h 17 0) (mq_I h2 17 0) (mq_I h 25) (mq_I h2 25) v p k s d e u
def y_pm_claim (p k s d e u : Int32) (h : mq_H) (v : Option Value) (h2 : mq_H) : Prop := y_sp_claim (mq_I h 59 9) (mq_I h2 59 9) (mq_I h 71) (mq_I h2 71) v p k s d e u
theorem y_c_claim (_ : ck_Iv x_X h) {p k s d e u : Int32} (n : Nat) : mq_PC mq_G (mq_tT lL) n 111 [.retAddr 4, .int p, .int k, .int s, .int d, .int e, .int u] h (y_pc_claim p k s d e u h) := by
  have no : ¬ y_okc (mq_I h 17 0) p k s d e u → y_pc_claim p k s d e u h (some (.int (-1))) h := fun z => Or.inr ⟨z, rfl, rfl, fun _ => rfl⟩
  unfold y_okc at no
  revert n
  refine mq_el_in 200 [] (fun n => ?_)
  refine y_wi (k := 6) rfl (fun a1 a2 => ?_) (fun a => bq_t rfl (no (by omega)))
  refine bq_f (by decide) ?_
  refine y_wi (k := 10) rfl (fun a3 a4 => ?_) (fun a => bq_t rfl (no (by omega)))
  refine bq_f (by decide) ?_
  refine y_wi (k := 10000) rfl (fun a5 a6 => ?_) (fun a => bn_f rfl (no (by omega)))
  refine bn_t (by decide) ?_
  refine y_wi (k := 3000) rfl (fun a7 a8 => ?_) (fun a => bq_t rfl (no (by omega)))
  refine bq_f (by decide) ?_
  refine y_wi (k := 3000) rfl (fun a9 a10 => ?_) (fun a => bq_t rfl (no (by omega)))
  refine bq_f (by decide) ?_
  refine y_wi (k := 3000) rfl (fun a11 a12 => ?_) (fun a => bn_f rfl (no (by omega)))
  refine bn_t (by decide) ?_
  refine bq_c (fun c => ?_) (fun c => ?_)
  · rw [lt_i] at c
    exact no (by omega)
  rw [lt_i] at c
  refine bq_c (fun c2 => ?_) (fun c2 => ?_)
  · rw [le_i] at c2
    refine bq_c (fun c3 => ?_) (fun c3 => ?_)
    · rw [lt_i] at c3
      have c3 : (mq_I h 17 0).toInt < 60 := c3
      intro _ _ _ _ _ _ _ _
      refine mq_PC.mono (y_f1 n) (fun v h2 ⟨ev, f⟩ => ?_)
      subst ev
      refine Or.inl ⟨⟨by omega, by omega, by omega, by omega, by omega, by omega, by omega, by omega, by omega, by omega, by omega, by omega, by omega⟩, rfl, (f _ _ (by omega)).trans rfl, fun j => (f _ _ (by omega)).trans rfl⟩
    · rw [lt_i] at c3
      have c3 : ¬ (mq_I h 17 0).toInt < 60 := c3
      exact no (by omega)
  · rw [le_i] at c2
    exact no (by omega)
theorem y_m_claim (I : ck_Iv x_X h) {p k s d e u : Int32} (n : Nat) : mq_PC mq_G (mq_tT lL) n 147 [.retAddr 59, .int p, .int k, .int s, .int d, .int e, .int u] h (y_pm_claim p k s d e u h) := by
  have n0 := I.1.1 59 9 0 60 rfl
  have no : ¬ y_okc (mq_I h 59 9) p k s d e u → y_pm_claim p k s d e u h (some (.int (-1))) (mq_setI h 59 0 0) := fun z => Or.inr ⟨z, rfl, rfl, fun _ => rfl⟩
  unfold y_okc at no
  revert n
  refine mq_el_in 200 [] (fun n => ?_)
  refine (x_isPlace2 (fun a1 a2 => ?_) (fun a => bq_t rfl (no (fun z => a (by omega) (by omega))))).pc n
  refine bq_f (by decide) ?_
  refine y_ii (a := 0) (b := 9) rfl rfl (fun a3 a4 => ?_) (fun a => bq_t rfl (no (by omega)))
  refine bq_f (by decide) ?_
  refine y_ii (a := 0) (b := 9999) rfl rfl (fun a5 a6 => ?_) (fun a => bq_t rfl (no (by omega)))
  refine bq_f (by decide) ?_
  refine y_ii (a := 0) (b := 2999) rfl rfl (fun a7 a8 => ?_) (fun a => bq_t rfl (no (by omega)))
  refine bq_f (by decide) ?_
  refine y_ii (a := d.toInt) (b := 2999) rfl rfl (fun a9 a10 => ?_) (fun a => bq_t rfl (no (by omega)))
  refine bq_f (by decide) ?_
  refine y_ii (a := d.toInt) (b := 2999) rfl rfl (fun a11 a12 => ?_) (fun a => bq_t rfl (no (by omega)))
  refine bq_f (by decide) ?_
  refine bn_c (fun c => ?_) (fun c => ?_)
  · have c : ¬ (mq_I h 59 9).toInt = 60 := fun z => c (x_toI z rfl)
    intro _ _ _ _ _ _ _ _
    refine Or.inl ⟨⟨by omega, by omega, by omega, by omega, by omega, by omega, by omega, by omega, by omega, by omega, by omega, by omega, by omega⟩, ?_, rfl, fun j => rfl⟩
    exact congrArg (fun z => some (Value.int z)) (Int32.add_sub_cancel (mq_I h 59 9) 1)
  · have c : (mq_I h 59 9).toInt = 60 := congrArg Int32.toInt c
    exact no (by omega)
/-- the joints -/
theorem y_a_want {c b r1 r2 : Int32} {M : Nat} (ct : y_e_ct (mq_I h) (mq_I h)) (m1 : ck_md M h h1) (d : Nat.beq (Nat.land M y_k_ct) 0 = true) (s1 : y_pc_want c b h (some (.int r1)) h1) (s2 : y_pm_want c b h1 (some (.int r2)) h2) : r1 = r2 := by
  have a1 := y_vi s1
  have b1 := y_vi s2
  have ct : mq_I h 17 0 = mq_I h 59 9 := ct
  rw [m1.2.2.2.2 59 9 (y_dis d (by decide)), ← ct] at b1
  rw [a1, b1]
theorem y_j_claim {p k s d e u r1 r2 : Int32} (ct : y_e_ct (mq_I h) (mq_I h)) (I : ck_Iv x_X h) (m1 : ck_md kc_111.2.2 h h1) (s1 : y_pc_claim p k s d e u h (some (.int r1)) h1) (m2 : ck_md kc_147.2.2 h1 h2) (s2 : y_pm_claim p k s d e u h1 (some (.int r2)) h2) : r1 = r2 ∧ y_e_ct (mq_I h2) (mq_I h2) ∧ (y_e_fc (mq_I h) (mq_I h) → y_e_fc (mq_I h2) (mq_I h2)) := by
  have ct : mq_I h 17 0 = mq_I h 59 9 := ct
  have q1 : mq_I h1 59 9 = mq_I h 59 9 := m1.2.2.2.2 _ _ (by decide)
  have q2 : mq_I h2 17 0 = mq_I h1 17 0 := m2.2.2.2.2 _ _ (by decide)
  have q3 : ∀ j, mq_I h1 71 j = mq_I h 71 j := fun j => m1.2.2.2.2 _ _ (show Nat.testBit _ (ck_lca 71) = false by decide)
  have q4 : ∀ j, mq_I h2 25 j = mq_I h1 25 j := fun j => m2.2.2.2.2 _ _ (show Nat.testBit _ (ck_lca 25) = false by decide)
  unfold y_pc_claim y_sp_claim at s1
  unfold y_pm_claim y_sp_claim at s2
  rw [q1, ← ct] at s2
  rcases s1 with ⟨o1, v1, n1, f1⟩ | ⟨o1, v1, n1, f1⟩ <;> rcases s2 with ⟨o2, v2, n2, f2⟩ | ⟨o2, v2, n2, f2⟩
  · refine ⟨(y_vi v1).trans (y_vi v2).symm, by show mq_I h2 17 0 = mq_I h2 59 9; rw [q2, n1, n2], fun fc j hj => ?_⟩
    rw [q4, f1, f2, q3, fc j hj]
  · exact absurd o1 o2
  · exact absurd o2 o1
  · refine ⟨(y_vi v1).trans (y_vi v2).symm, by show mq_I h2 17 0 = mq_I h2 59 9; rw [q2, n1, n2], fun fc j hj => ?_⟩
    rw [q4, f1, f2, q3, fc j hj]
end YC
