/-! THE CLASS on a fresh object: what does not loop -/
def fr_C (h : mq_H) : Prop := mq_I h 5 0 = 0 ∧ mq_I h 17 0 = 0 ∧ mq_I h 6 1 = 0 ∧ (∀ k, k < 6 → mq_I h 9 k = 0) ∧ mq_I h 35 1 = 0 ∧ mq_I h 35 2 = 0 ∧ mq_I h 35 3 = -1 ∧ (∀ k, k < 6 → mq_I h 31 k = -1) ∧ (∀ k, k < 8 → mq_R h 13 k = some 14) ∧ mq_R h 4 5 = none ∧ mq_N h = 100 ∧ mq_sh h 14 = .inl 6 ∧ mq_R h 14 0 = some 16 ∧ mq_sh h 16 = .inr (5, 0)
section PC2
variable {lL : Nat} {h : mq_H} {Q : Option Value → mq_H → Prop}
theorem cl_lt {x : Int32} {n : Nat} (h0 : 0 ≤ x.toInt) (h : x.toInt < (n : Int)) : x.toNatClampNeg < n := by
  show x.toInt.toNat < n
  omega
/-- Arrays.fill of a row of 60 -/
theorem c_fill50 {x : Int32} (hq : ∀ h', mq_mod 50 51 0 0 h h' → (∀ j, j < 60 → mq_I h' 50 j = x) → Q none h') : mq_Call mq_G (mq_tT lL) 230 [.retAddr 50, .int x] h Q := by
  have key : ∀ (n k : Nat) (h' : mq_H), k + n = 60 → mq_mod 50 51 0 0 h h' → (∀ j, j < k → mq_I h' 50 j = x) → mq_At mq_G (mq_tT lL) 230 5 [some (.retAddr 50), some (.int x), some (.int (nI k)), some (.int (nI 60))] [] h' Q := by
    intro n
    induction n with
    | zero =>
      intro k h' hk hm hj
      apply mq_go 40 []
      refine bq_t (by rw [show k = 60 by omega]; decide) ?_
      exact hq h' hm (fun j hj' => hj j (by omega))
    | succ n ih =>
      intro k h' hk hm hj
      apply mq_go 40 [5]
      refine bq_f (nI_ge (by omega) (by decide)) ?_
      refine gq_i (inb_nI (by omega) (by decide)) ?_
      rw [clamp_nI (by omega)]
      apply Eq.mp (congrArg (fun z => mq_At mq_G (mq_tT lL) 230 5 [some (.retAddr 50), some (.int x), some (.int z), some (.int (nI 60))] [] (mq_setI h' 50 k x) Q) (nI_1 k).symm)
      refine ih (k + 1) _ (by omega) (hm.sI (Or.inl ⟨by decide, by decide⟩) k x) (fun j hj' => ?_)
      rw [mq_I_setI, if_pos rfl]
      by_cases e : j = k
      · rw [if_pos e]
      · rw [if_neg e]; exact hj j (by omega)
  apply mq_enter 40 [5]
  refine gq_i rfl ?_
  exact key 60 0 h (by decide) (mq_mod.rf 0 0 h) (fun j hj => by omega)
/-- Arrays.fill of a row of 60 -/
theorem c_fill53 {x : Int32} (hq : ∀ h', mq_mod 53 54 0 0 h h' → (∀ j, j < 60 → mq_I h' 53 j = x) → Q none h') : mq_Call mq_G (mq_tT lL) 230 [.retAddr 53, .int x] h Q := by
  have key : ∀ (n k : Nat) (h' : mq_H), k + n = 60 → mq_mod 53 54 0 0 h h' → (∀ j, j < k → mq_I h' 53 j = x) → mq_At mq_G (mq_tT lL) 230 5 [some (.retAddr 53), some (.int x), some (.int (nI k)), some (.int (nI 60))] [] h' Q := by
    intro n
    induction n with
    | zero =>
      intro k h' hk hm hj
      apply mq_go 40 []
      refine bq_t (by rw [show k = 60 by omega]; decide) ?_
      exact hq h' hm (fun j hj' => hj j (by omega))
    | succ n ih =>
      intro k h' hk hm hj
      apply mq_go 40 [5]
      refine bq_f (nI_ge (by omega) (by decide)) ?_
      refine gq_i (inb_nI (by omega) (by decide)) ?_
      rw [clamp_nI (by omega)]
      apply Eq.mp (congrArg (fun z => mq_At mq_G (mq_tT lL) 230 5 [some (.retAddr 53), some (.int x), some (.int z), some (.int (nI 60))] [] (mq_setI h' 53 k x) Q) (nI_1 k).symm)
      refine ih (k + 1) _ (by omega) (hm.sI (Or.inl ⟨by decide, by decide⟩) k x) (fun j hj' => ?_)
      rw [mq_I_setI, if_pos rfl]
      by_cases e : j = k
      · rw [if_pos e]
      · rw [if_neg e]; exact hj j (by omega)
  apply mq_enter 40 [5]
  refine gq_i rfl ?_
  exact key 60 0 h (by decide) (mq_mod.rf 0 0 h) (fun j hj => by omega)
theorem c_forgetAll (hq : ∀ h', mq_mod 50 54 0 0 h h' → Q none h') : mq_Call mq_G (mq_tT lL) 45 [.retAddr 49] h Q := by
  apply mq_enter 40 []
  apply c_fill53
  intro h1 m1 v1
  apply c_fill50
  intro h2 m2 v2
  exact hq h2 ((m1.wd (lo' := 50) (hi' := 54) (by decide) (by decide) (Nat.le_refl _) (Nat.le_refl _)).tr (m2.wd (by decide) (by decide) (Nat.le_refl 0) (Nat.le_refl 0)) (by decide) (by decide))
theorem c_forgetOne {x : Int32} (h0 : 0 ≤ x.toInt) (h1 : x.toInt < 60) (hq : ∀ h', mq_mod 50 54 0 0 h h' → Q none h') : mq_Call mq_G (mq_tT lL) 46 [.retAddr 49, .int x] h Q := by
  apply mq_enter 40 []
  refine gq_i (inb_of ⟨h0, h1⟩) ?_
  refine gq_i (inb_of ⟨h0, h1⟩) ?_
  exact hq _ (((mq_mod.rf 0 0 h).sI (Or.inl ⟨by decide, by decide⟩) _ _).sI (Or.inl ⟨by decide, by decide⟩) _ _)
theorem c_drop {x : Int32} (hq : ∀ h', mq_mod 31 32 0 0 h h' → Q none h') : mq_Call mq_G (mq_tT lL) 1 [.retAddr 30, .int x] h Q := by
  have key : ∀ (n k : Nat) (h' : mq_H), k + n = 6 → mq_mod 31 32 0 0 h h' → mq_At mq_G (mq_tT lL) 1 2 [some (.retAddr 30), some (.int x), some (.int (nI k))] [] h' Q := by
    intro n
    induction n with
    | zero =>
      intro k h' hk hm
      apply mq_go 40 []
      refine bq_t (by rw [show k = 6 by omega]; decide) ?_
      exact hq h' hm
    | succ n ih =>
      intro k h' hk hm
      apply mq_go 40 [2]
      refine bq_f (nI_ge (b := 6) (by omega) (by decide)) ?_
      refine gq_i (inb_nI (by omega) (by decide)) ?_
      refine bq_c (fun c => ?_) (fun c => ?_)
      · show mq_At mq_G (mq_tT lL) 1 2 [some (.retAddr 30), some (.int x), some (.int (nI k + 1))] [] h' Q
        rw [nI_1]
        exact ih (k + 1) h' (by omega) hm
      · refine gq_i (inb_nI (by omega) (by decide)) ?_
        show mq_At mq_G (mq_tT lL) 1 2 [some (.retAddr 30), some (.int x), some (.int (nI k + 1))] [] (mq_setI h' 31 (nI k).toNatClampNeg (-1)) Q
        rw [nI_1]
        exact ih (k + 1) _ (by omega) (hm.sI (Or.inl ⟨by decide, by decide⟩) _ _)
  apply mq_enter 40 [2]
  exact key 6 0 h (by decide) (mq_mod.rf 0 0 h)
/-- one byte comes on the tape -/
theorem c_pb1 {x s : Int32} {n : Nat} (hs : ¬ s < 0) (hn : mq_I h 35 1 = nI n) (hn4 : n < 400) (K : ∀ h', mq_mod 35 37 0 0 h h' → mq_I h' 35 1 = nI (n + 1) → mq_At mq_G (mq_tT lL) 77 3 [some (.retAddr 35), some (.int x), some (.int (s + (-8)))] [] h' Q) : mq_At mq_G (mq_tT lL) 77 3 [some (.retAddr 35), some (.int x), some (.int s)] [] h Q := by
  apply mq_go 40 [3]
  refine bq_f hs ?_
  refine bq_f (by rw [hn]; exact nI_ge (b := 400) (by omega) (by decide)) ?_
  refine gq_i (by rw [hn]; exact inb_nI (by omega) (by decide)) ?_
  refine K _ (((mq_mod.rf 0 0 h).sI (Or.inl ⟨by decide, by decide⟩) _ _).sI (Or.inl ⟨by decide, by decide⟩) _ _) ?_
  rw [mq_I_setI, if_pos rfl, if_pos rfl, mq_I_setI, if_neg (by decide), hn, nI_1]
theorem c_putBytes {x : Int32} {n : Nat} (hn : mq_I h 35 1 = nI n) (hn4 : n + 4 ≤ 400) (hq : ∀ h', mq_mod 35 37 0 0 h h' → mq_I h' 35 1 = nI (n + 4) → Q none h') : mq_Call mq_G (mq_tT lL) 77 [.retAddr 35, .int x] h Q := by
  apply mq_enter 40 [3]
  refine c_pb1 (by decide) hn (by omega) (fun h1 m1 e1 => ?_)
  refine c_pb1 (by decide) e1 (by omega) (fun h2 m2 e2 => ?_)
  refine c_pb1 (by decide) e2 (by omega) (fun h3 m3 e3 => ?_)
  refine c_pb1 (by decide) e3 (by omega) (fun h4 m4 e4 => ?_)
  apply mq_go 40 []
  refine bq_t (by decide) ?_
  exact hq h4 (mq_mod.tr (n := 0) (z := 0) (mq_mod.tr (n := 0) (z := 0) (mq_mod.tr (n := 0) (z := 0) m1 m2 (by decide) (by decide)) m3 (by decide) (by decide)) m4 (by decide) (by decide)) e4
end PC2
theorem md_w {a b n z : Nat} {h h' : mq_H} (m : mq_mod a b n z h h') (h1 : 4 ≤ a := by decide) (h2 : b ≤ 59 := by decide) (h3 : n ≤ 100 := by decide) (h4 : z ≤ 10000 := by decide) : mq_mod 4 59 100 10000 h h' := m.wd h1 h2 h3 h4
theorem mqM2 {h h1 h2 : mq_H} (a : mq_mod 4 59 100 10000 h h1) (b : mq_mod 4 59 100 10000 h1 h2) : mq_mod 4 59 200 20000 h h2 := a.tr b (by decide) (by decide)
theorem lit_i : (0 : Int32).toInt = 0 ∧ (1 : Int32).toInt = 1 ∧ (2 : Int32).toInt = 2 ∧ (3 : Int32).toInt = 3 ∧ (4 : Int32).toInt = 4 ∧ (5 : Int32).toInt = 5 ∧ (6 : Int32).toInt = 6 ∧ (7 : Int32).toInt = 7 ∧ (8 : Int32).toInt = 8 ∧ (9 : Int32).toInt = 9 ∧ (10 : Int32).toInt = 10 ∧ (11 : Int32).toInt = 11 ∧ (12 : Int32).toInt = 12 ∧ (17 : Int32).toInt = 17 ∧ (18 : Int32).toInt = 18 ∧ (20 : Int32).toInt = 20 ∧ (24 : Int32).toInt = 24 ∧ (25 : Int32).toInt = 25 ∧ (26 : Int32).toInt = 26 ∧ (29 : Int32).toInt = 29 ∧ (30 : Int32).toInt = 30 ∧ (60 : Int32).toInt = 60 ∧ (64 : Int32).toInt = 64 ∧ (380 : Int32).toInt = 380 ∧ (400 : Int32).toInt = 400 ∧ (999 : Int32).toInt = 999 ∧ (1000 : Int32).toInt = 1000 ∧ (2999 : Int32).toInt = 2999 ∧ (3000 : Int32).toInt = 3000 ∧ (4999 : Int32).toInt = 4999 ∧ (5000 : Int32).toInt = 5000 ∧ (9999 : Int32).toInt = 9999 ∧ (10000 : Int32).toInt = 10000 ∧ (100000 : Int32).toInt = 100000 ∧ (-1 : Int32).toInt = -1 ∧ (-2 : Int32).toInt = -2 ∧ (-3 : Int32).toInt = -3 ∧ (-10 : Int32).toInt = -10 ∧ (-100000 : Int32).toInt = -100000 := by decide +kernel
def sp_b (c : Prop) (r : Int32) : Prop := (c ∧ r = 1) ∨ (¬ c ∧ r = 0)
def sp_v (c : Prop) (v w r : Int32) : Prop := (c ∧ r = v) ∨ (¬ c ∧ r = w)
theorem sp_b_un {c : Prop} {r s : Int32} (h1 : sp_b c r) (h2 : sp_b c s) : r = s := by
  rcases h1 with ⟨a, rfl⟩ | ⟨a, rfl⟩ <;> rcases h2 with ⟨b, rfl⟩ | ⟨b, rfl⟩ <;> first | rfl | exact absurd a b | exact absurd b a
theorem sp_v_un {c : Prop} {v w r s : Int32} (h1 : sp_v c v w r) (h2 : sp_v c v w s) : r = s := by
  rcases h1 with ⟨a, rfl⟩ | ⟨a, rfl⟩ <;> rcases h2 with ⟨b, rfl⟩ | ⟨b, rfl⟩ <;> first | rfl | exact absurd a b | exact absurd b a
section PC3
variable {lL : Nat} {h : mq_H} {Q : Option Value → mq_H → Prop}
theorem f_end (F : fr_C h) {x : Int32} (hq : ∀ r h', mq_mod 4 59 200 20000 h h' → sp_b (x.toInt = 0) r → Q (some (.int r)) h') : mq_Call mq_G (mq_tT lL) 108 [.retAddr 4, .int x] h Q := by
  obtain ⟨f1, f2, f3, f4, f5, f6, f7, f8, f9, f10, f11⟩ := F
  apply mq_enter 60 []
  repeat' (first
      | (refine hq _ _ ?_ ?_)
      | (refine gq_i rfl ?_)
      | (refine gq_i (by apply inb_of; simp only [lt_i, le_i, eq_i, lit_i] at *; omega) ?_)
      | (refine bq_t (by decide) ?_)
      | (refine bq_f (by decide) ?_)
      | (refine bn_t (by decide) ?_)
      | (refine bn_f (by decide) ?_)
      | (refine bq_c (fun c => ?_) (fun c => ?_))
      | (refine bn_c (fun c => ?_) (fun c => ?_)))
  all_goals (first
      | exact mq_mod.rf _ _ _
      | (repeat (first | exact mq_mod.rf _ _ _ | assumption | refine mq_mod.sI ?_ (Or.inl ⟨by decide, by decide⟩) _ _ | refine mq_mod.sJ ?_ (Or.inl ⟨by decide, by decide⟩) _ _ | refine mq_mod.sR ?_ (Or.inl ⟨by decide, by decide⟩) _ _)); done
      | (refine mqM2 ?_ (md_w (by assumption)); (repeat (first | exact mq_mod.rf _ _ _ | refine mq_mod.sI ?_ (Or.inl ⟨by decide, by decide⟩) _ _ | refine mq_mod.sJ ?_ (Or.inl ⟨by decide, by decide⟩) _ _ | refine mq_mod.sR ?_ (Or.inl ⟨by decide, by decide⟩) _ _)); done)
      | exact Or.inl ⟨trivial, rfl⟩
      | rfl
      | (refine Or.inl ⟨?_, rfl⟩; simp only [lt_i, le_i, eq_i, lit_i] at *; omega)
      | (refine Or.inr ⟨?_, rfl⟩; simp only [lt_i, le_i, eq_i, lit_i] at *; omega)
      | (refine Or.inl ⟨?_, by assumption⟩; simp only [lt_i, le_i, eq_i, lit_i] at *; omega)
      | (refine Or.inr ⟨?_, by assumption⟩; simp only [lt_i, le_i, eq_i, lit_i] at *; omega)
      | assumption
      | (exfalso; simp only [lt_i, le_i, eq_i, lit_i] at *; omega))
theorem f_fault (F : fr_C h) {x : Int32} (hq : ∀ r h', mq_mod 4 59 200 20000 h h' → sp_v (x.toInt = 0) 0 (-1) r → Q (some (.int r)) h') : mq_Call mq_G (mq_tT lL) 110 [.retAddr 4, .int x] h Q := by
  obtain ⟨f1, f2, f3, f4, f5, f6, f7, f8, f9, f10, f11⟩ := F
  apply mq_enter 60 []
  repeat' (first
      | (refine hq _ _ ?_ ?_)
      | (refine gq_i rfl ?_)
      | (refine gq_i (by apply inb_of; simp only [lt_i, le_i, eq_i, lit_i] at *; omega) ?_)
      | (refine bq_t (by decide) ?_)
      | (refine bq_f (by decide) ?_)
      | (refine bn_t (by decide) ?_)
      | (refine bn_f (by decide) ?_)
      | (refine bq_c (fun c => ?_) (fun c => ?_))
      | (refine bn_c (fun c => ?_) (fun c => ?_)))
  all_goals (first
      | exact mq_mod.rf _ _ _
      | (repeat (first | exact mq_mod.rf _ _ _ | assumption | refine mq_mod.sI ?_ (Or.inl ⟨by decide, by decide⟩) _ _ | refine mq_mod.sJ ?_ (Or.inl ⟨by decide, by decide⟩) _ _ | refine mq_mod.sR ?_ (Or.inl ⟨by decide, by decide⟩) _ _)); done
      | (refine mqM2 ?_ (md_w (by assumption)); (repeat (first | exact mq_mod.rf _ _ _ | refine mq_mod.sI ?_ (Or.inl ⟨by decide, by decide⟩) _ _ | refine mq_mod.sJ ?_ (Or.inl ⟨by decide, by decide⟩) _ _ | refine mq_mod.sR ?_ (Or.inl ⟨by decide, by decide⟩) _ _)); done)
      | exact Or.inl ⟨trivial, rfl⟩
      | rfl
      | (refine Or.inl ⟨?_, rfl⟩; simp only [lt_i, le_i, eq_i, lit_i] at *; omega)
      | (refine Or.inr ⟨?_, rfl⟩; simp only [lt_i, le_i, eq_i, lit_i] at *; omega)
      | (refine Or.inl ⟨?_, by assumption⟩; simp only [lt_i, le_i, eq_i, lit_i] at *; omega)
      | (refine Or.inr ⟨?_, by assumption⟩; simp only [lt_i, le_i, eq_i, lit_i] at *; omega)
      | assumption
      | (exfalso; simp only [lt_i, le_i, eq_i, lit_i] at *; omega))
theorem f_want (F : fr_C h) {x y : Int32} (hq : ∀ r h', mq_mod 4 59 200 20000 h h' → r = 0 → Q (some (.int r)) h') : mq_Call mq_G (mq_tT lL) 121 [.retAddr 4, .int x, .int y] h Q := by
  obtain ⟨f1, f2, f3, f4, f5, f6, f7, f8, f9, f10, f11⟩ := F
  apply mq_enter 60 []
  repeat' (first
      | (refine hq _ _ ?_ ?_)
      | (refine gq_i rfl ?_)
      | (refine gq_i (by apply inb_of; simp only [lt_i, le_i, eq_i, lit_i] at *; omega) ?_)
      | (refine bq_t (by decide) ?_)
      | (refine bq_f (by decide) ?_)
      | (refine bn_t (by decide) ?_)
      | (refine bn_f (by decide) ?_)
      | (apply c_isClaim <;> intros)
      | (refine bq_c (fun c => ?_) (fun c => ?_))
      | (refine bn_c (fun c => ?_) (fun c => ?_)))
  all_goals (first
      | exact mq_mod.rf _ _ _
      | (repeat (first | exact mq_mod.rf _ _ _ | assumption | refine mq_mod.sI ?_ (Or.inl ⟨by decide, by decide⟩) _ _ | refine mq_mod.sJ ?_ (Or.inl ⟨by decide, by decide⟩) _ _ | refine mq_mod.sR ?_ (Or.inl ⟨by decide, by decide⟩) _ _)); done
      | (refine mqM2 ?_ (md_w (by assumption)); (repeat (first | exact mq_mod.rf _ _ _ | refine mq_mod.sI ?_ (Or.inl ⟨by decide, by decide⟩) _ _ | refine mq_mod.sJ ?_ (Or.inl ⟨by decide, by decide⟩) _ _ | refine mq_mod.sR ?_ (Or.inl ⟨by decide, by decide⟩) _ _)); done)
      | exact Or.inl ⟨trivial, rfl⟩
      | rfl
      | (refine Or.inl ⟨?_, rfl⟩; simp only [lt_i, le_i, eq_i, lit_i] at *; omega)
      | (refine Or.inr ⟨?_, rfl⟩; simp only [lt_i, le_i, eq_i, lit_i] at *; omega)
      | (refine Or.inl ⟨?_, by assumption⟩; simp only [lt_i, le_i, eq_i, lit_i] at *; omega)
      | (refine Or.inr ⟨?_, by assumption⟩; simp only [lt_i, le_i, eq_i, lit_i] at *; omega)
      | assumption
      | (exfalso; simp only [lt_i, le_i, eq_i, lit_i] at *; omega))
theorem f_last (F : fr_C h) {x : Int32} (hq : ∀ r h', mq_mod 4 59 200 20000 h h' → r = -3 → Q (some (.int r)) h') : mq_Call mq_G (mq_tT lL) 114 [.retAddr 4, .int x] h Q := by
  obtain ⟨f1, f2, f3, f4, f5, f6, f7, f8, f9, f10, f11⟩ := F
  apply mq_enter 60 []
  apply c_isClaim
  · intro a b
    exfalso
    rw [f2] at b
    simp only [lit_i] at b
    omega
  · intro a
    repeat' (first
        | (refine hq _ _ ?_ ?_)
        | (refine gq_i rfl ?_)
        | (refine gq_i (by apply inb_of; simp only [lt_i, le_i, eq_i, lit_i] at *; omega) ?_)
        | (refine bq_t (by decide) ?_)
        | (refine bq_f (by decide) ?_)
        | (refine bn_t (by decide) ?_)
        | (refine bn_f (by decide) ?_)
        | (refine bq_c (fun c => ?_) (fun c => ?_))
        | (refine bn_c (fun c => ?_) (fun c => ?_)))
    all_goals (first
        | exact mq_mod.rf _ _ _
        | (repeat (first | exact mq_mod.rf _ _ _ | assumption | refine mq_mod.sI ?_ (Or.inl ⟨by decide, by decide⟩) _ _ | refine mq_mod.sJ ?_ (Or.inl ⟨by decide, by decide⟩) _ _ | refine mq_mod.sR ?_ (Or.inl ⟨by decide, by decide⟩) _ _)); done
        | (refine mqM2 ?_ (md_w (by assumption)); (repeat (first | exact mq_mod.rf _ _ _ | refine mq_mod.sI ?_ (Or.inl ⟨by decide, by decide⟩) _ _ | refine mq_mod.sJ ?_ (Or.inl ⟨by decide, by decide⟩) _ _ | refine mq_mod.sR ?_ (Or.inl ⟨by decide, by decide⟩) _ _)); done)
        | exact Or.inl ⟨trivial, rfl⟩
        | rfl
        | (refine Or.inl ⟨?_, rfl⟩; simp only [lt_i, le_i, eq_i, lit_i] at *; omega)
        | (refine Or.inr ⟨?_, rfl⟩; simp only [lt_i, le_i, eq_i, lit_i] at *; omega)
        | (refine Or.inl ⟨?_, by assumption⟩; simp only [lt_i, le_i, eq_i, lit_i] at *; omega)
        | (refine Or.inr ⟨?_, by assumption⟩; simp only [lt_i, le_i, eq_i, lit_i] at *; omega)
        | assumption
        | (exfalso; simp only [lt_i, le_i, eq_i, lit_i] at *; omega))
theorem f_fact (F : fr_C h) {x1 x2 x3 x4 : Int32} (hq : ∀ r h', mq_mod 4 59 200 20000 h h' → r = -1 → Q (some (.int r)) h') : mq_Call mq_G (mq_tT lL) 112 [.retAddr 4, .int x1, .int x2, .int x3, .int x4] h Q := by
  obtain ⟨f1, f2, f3, f4, f5, f6, f7, f8, f9, f10, f11⟩ := F
  apply mq_enter 90 []
  apply c_isClaim
  · intro a b
    exfalso
    rw [f2] at b
    simp only [lit_i] at b
    omega
  · intro a
    repeat' (first
        | (refine hq _ _ ?_ ?_)
        | (refine gq_i rfl ?_)
        | (refine gq_i (by apply inb_of; simp only [lt_i, le_i, eq_i, lit_i] at *; omega) ?_)
        | (refine bq_t (by decide) ?_)
        | (refine bq_f (by decide) ?_)
        | (refine bn_t (by decide) ?_)
        | (refine bn_f (by decide) ?_)
        | (refine bq_c (fun c => ?_) (fun c => ?_))
        | (refine bn_c (fun c => ?_) (fun c => ?_)))
    all_goals (first
        | exact mq_mod.rf _ _ _
        | (repeat (first | exact mq_mod.rf _ _ _ | assumption | refine mq_mod.sI ?_ (Or.inl ⟨by decide, by decide⟩) _ _ | refine mq_mod.sJ ?_ (Or.inl ⟨by decide, by decide⟩) _ _ | refine mq_mod.sR ?_ (Or.inl ⟨by decide, by decide⟩) _ _)); done
        | (refine mqM2 ?_ (md_w (by assumption)); (repeat (first | exact mq_mod.rf _ _ _ | refine mq_mod.sI ?_ (Or.inl ⟨by decide, by decide⟩) _ _ | refine mq_mod.sJ ?_ (Or.inl ⟨by decide, by decide⟩) _ _ | refine mq_mod.sR ?_ (Or.inl ⟨by decide, by decide⟩) _ _)); done)
        | exact Or.inl ⟨trivial, rfl⟩
        | rfl
        | (refine Or.inl ⟨?_, rfl⟩; simp only [lt_i, le_i, eq_i, lit_i] at *; omega)
        | (refine Or.inr ⟨?_, rfl⟩; simp only [lt_i, le_i, eq_i, lit_i] at *; omega)
        | (refine Or.inl ⟨?_, by assumption⟩; simp only [lt_i, le_i, eq_i, lit_i] at *; omega)
        | (refine Or.inr ⟨?_, by assumption⟩; simp only [lt_i, le_i, eq_i, lit_i] at *; omega)
        | assumption
        | (exfalso; simp only [lt_i, le_i, eq_i, lit_i] at *; omega))
theorem f_doubt (F : fr_C h) {x1 x2 x3 : Int32} (hq : ∀ r h', mq_mod 4 59 200 20000 h h' → r = 0 → Q (some (.int r)) h') : mq_Call mq_G (mq_tT lL) 113 [.retAddr 4, .int x1, .int x2, .int x3] h Q := by
  obtain ⟨f1, f2, f3, f4, f5, f6, f7, f8, f9, f10, f11⟩ := F
  apply mq_enter 90 []
  apply c_isClaim
  · intro a b
    exfalso
    rw [f2] at b
    simp only [lit_i] at b
    omega
  · intro a
    repeat' (first
        | (refine hq _ _ ?_ ?_)
        | (refine gq_i rfl ?_)
        | (refine gq_i (by apply inb_of; simp only [lt_i, le_i, eq_i, lit_i] at *; omega) ?_)
        | (refine bq_t (by decide) ?_)
        | (refine bq_f (by decide) ?_)
        | (refine bn_t (by decide) ?_)
        | (refine bn_f (by decide) ?_)
        | (refine bq_c (fun c => ?_) (fun c => ?_))
        | (refine bn_c (fun c => ?_) (fun c => ?_)))
    all_goals (first
        | exact mq_mod.rf _ _ _
        | (repeat (first | exact mq_mod.rf _ _ _ | assumption | refine mq_mod.sI ?_ (Or.inl ⟨by decide, by decide⟩) _ _ | refine mq_mod.sJ ?_ (Or.inl ⟨by decide, by decide⟩) _ _ | refine mq_mod.sR ?_ (Or.inl ⟨by decide, by decide⟩) _ _)); done
        | (refine mqM2 ?_ (md_w (by assumption)); (repeat (first | exact mq_mod.rf _ _ _ | refine mq_mod.sI ?_ (Or.inl ⟨by decide, by decide⟩) _ _ | refine mq_mod.sJ ?_ (Or.inl ⟨by decide, by decide⟩) _ _ | refine mq_mod.sR ?_ (Or.inl ⟨by decide, by decide⟩) _ _)); done)
        | exact Or.inl ⟨trivial, rfl⟩
        | rfl
        | (refine Or.inl ⟨?_, rfl⟩; simp only [lt_i, le_i, eq_i, lit_i] at *; omega)
        | (refine Or.inr ⟨?_, rfl⟩; simp only [lt_i, le_i, eq_i, lit_i] at *; omega)
        | (refine Or.inl ⟨?_, by assumption⟩; simp only [lt_i, le_i, eq_i, lit_i] at *; omega)
        | (refine Or.inr ⟨?_, by assumption⟩; simp only [lt_i, le_i, eq_i, lit_i] at *; omega)
        | assumption
        | (exfalso; simp only [lt_i, le_i, eq_i, lit_i] at *; omega))
theorem f_step (F : fr_C h) {x1 x2 x3 : Int32} (hq : ∀ r h', mq_mod 4 59 200 20000 h h' → r = -10 → Q (some (.int r)) h') : mq_Call mq_G (mq_tT lL) 115 [.retAddr 4, .int x1, .int x2, .int x3] h Q := by
  obtain ⟨f1, f2, f3, f4, f5, f6, f7, f8, f9, f10, f11⟩ := F
  apply mq_enter 90 []
  apply c_isClaim
  · intro a b
    exfalso
    rw [f2] at b
    simp only [lit_i] at b
    omega
  · intro a
    repeat' (first
        | (refine hq _ _ ?_ ?_)
        | (refine gq_i rfl ?_)
        | (refine gq_i (by apply inb_of; simp only [lt_i, le_i, eq_i, lit_i] at *; omega) ?_)
        | (refine bq_t (by decide) ?_)
        | (refine bq_f (by decide) ?_)
        | (refine bn_t (by decide) ?_)
        | (refine bn_f (by decide) ?_)
        | (refine bq_c (fun c => ?_) (fun c => ?_))
        | (refine bn_c (fun c => ?_) (fun c => ?_)))
    all_goals (first
        | exact mq_mod.rf _ _ _
        | (repeat (first | exact mq_mod.rf _ _ _ | assumption | refine mq_mod.sI ?_ (Or.inl ⟨by decide, by decide⟩) _ _ | refine mq_mod.sJ ?_ (Or.inl ⟨by decide, by decide⟩) _ _ | refine mq_mod.sR ?_ (Or.inl ⟨by decide, by decide⟩) _ _)); done
        | (refine mqM2 ?_ (md_w (by assumption)); (repeat (first | exact mq_mod.rf _ _ _ | refine mq_mod.sI ?_ (Or.inl ⟨by decide, by decide⟩) _ _ | refine mq_mod.sJ ?_ (Or.inl ⟨by decide, by decide⟩) _ _ | refine mq_mod.sR ?_ (Or.inl ⟨by decide, by decide⟩) _ _)); done)
        | exact Or.inl ⟨trivial, rfl⟩
        | rfl
        | (refine Or.inl ⟨?_, rfl⟩; simp only [lt_i, le_i, eq_i, lit_i] at *; omega)
        | (refine Or.inr ⟨?_, rfl⟩; simp only [lt_i, le_i, eq_i, lit_i] at *; omega)
        | (refine Or.inl ⟨?_, by assumption⟩; simp only [lt_i, le_i, eq_i, lit_i] at *; omega)
        | (refine Or.inr ⟨?_, by assumption⟩; simp only [lt_i, le_i, eq_i, lit_i] at *; omega)
        | assumption
        | (exfalso; simp only [lt_i, le_i, eq_i, lit_i] at *; omega))
theorem f_span (F : fr_C h) {x1 x2 : Int32} (hq : ∀ r h', mq_mod 4 59 200 20000 h h' → r = -10 → Q (some (.int r)) h') : mq_Call mq_G (mq_tT lL) 116 [.retAddr 4, .int x1, .int x2] h Q := by
  obtain ⟨f1, f2, f3, f4, f5, f6, f7, f8, f9, f10, f11⟩ := F
  apply mq_enter 90 []
  apply c_isClaim
  · intro a b
    exfalso
    rw [f2] at b
    simp only [lit_i] at b
    omega
  · intro a
    repeat' (first
        | (refine hq _ _ ?_ ?_)
        | (refine gq_i rfl ?_)
        | (refine gq_i (by apply inb_of; simp only [lt_i, le_i, eq_i, lit_i] at *; omega) ?_)
        | (refine bq_t (by decide) ?_)
        | (refine bq_f (by decide) ?_)
        | (refine bn_t (by decide) ?_)
        | (refine bn_f (by decide) ?_)
        | (refine bq_c (fun c => ?_) (fun c => ?_))
        | (refine bn_c (fun c => ?_) (fun c => ?_)))
    all_goals (first
        | exact mq_mod.rf _ _ _
        | (repeat (first | exact mq_mod.rf _ _ _ | assumption | refine mq_mod.sI ?_ (Or.inl ⟨by decide, by decide⟩) _ _ | refine mq_mod.sJ ?_ (Or.inl ⟨by decide, by decide⟩) _ _ | refine mq_mod.sR ?_ (Or.inl ⟨by decide, by decide⟩) _ _)); done
        | (refine mqM2 ?_ (md_w (by assumption)); (repeat (first | exact mq_mod.rf _ _ _ | refine mq_mod.sI ?_ (Or.inl ⟨by decide, by decide⟩) _ _ | refine mq_mod.sJ ?_ (Or.inl ⟨by decide, by decide⟩) _ _ | refine mq_mod.sR ?_ (Or.inl ⟨by decide, by decide⟩) _ _)); done)
        | exact Or.inl ⟨trivial, rfl⟩
        | rfl
        | (refine Or.inl ⟨?_, rfl⟩; simp only [lt_i, le_i, eq_i, lit_i] at *; omega)
        | (refine Or.inr ⟨?_, rfl⟩; simp only [lt_i, le_i, eq_i, lit_i] at *; omega)
        | (refine Or.inl ⟨?_, by assumption⟩; simp only [lt_i, le_i, eq_i, lit_i] at *; omega)
        | (refine Or.inr ⟨?_, by assumption⟩; simp only [lt_i, le_i, eq_i, lit_i] at *; omega)
        | assumption
        | (exfalso; simp only [lt_i, le_i, eq_i, lit_i] at *; omega))
theorem f_pay (F : fr_C h) {x1 : Int32} (hq : ∀ r h', mq_mod 4 59 200 20000 h h' → r = -100000 → Q (some (.int r)) h') : mq_Call mq_G (mq_tT lL) 125 [.retAddr 4, .int x1] h Q := by
  obtain ⟨f1, f2, f3, f4, f5, f6, f7, f8, f9, f10, f11⟩ := F
  apply mq_enter 90 []
  apply c_isClaim
  · intro a b
    exfalso
    rw [f2] at b
    simp only [lit_i] at b
    omega
  · intro a
    repeat' (first
        | (refine hq _ _ ?_ ?_)
        | (refine gq_i rfl ?_)
        | (refine gq_i (by apply inb_of; simp only [lt_i, le_i, eq_i, lit_i] at *; omega) ?_)
        | (refine bq_t (by decide) ?_)
        | (refine bq_f (by decide) ?_)
        | (refine bn_t (by decide) ?_)
        | (refine bn_f (by decide) ?_)
        | (refine bq_c (fun c => ?_) (fun c => ?_))
        | (refine bn_c (fun c => ?_) (fun c => ?_)))
    all_goals (first
        | exact mq_mod.rf _ _ _
        | (repeat (first | exact mq_mod.rf _ _ _ | assumption | refine mq_mod.sI ?_ (Or.inl ⟨by decide, by decide⟩) _ _ | refine mq_mod.sJ ?_ (Or.inl ⟨by decide, by decide⟩) _ _ | refine mq_mod.sR ?_ (Or.inl ⟨by decide, by decide⟩) _ _)); done
        | (refine mqM2 ?_ (md_w (by assumption)); (repeat (first | exact mq_mod.rf _ _ _ | refine mq_mod.sI ?_ (Or.inl ⟨by decide, by decide⟩) _ _ | refine mq_mod.sJ ?_ (Or.inl ⟨by decide, by decide⟩) _ _ | refine mq_mod.sR ?_ (Or.inl ⟨by decide, by decide⟩) _ _)); done)
        | exact Or.inl ⟨trivial, rfl⟩
        | rfl
        | (refine Or.inl ⟨?_, rfl⟩; simp only [lt_i, le_i, eq_i, lit_i] at *; omega)
        | (refine Or.inr ⟨?_, rfl⟩; simp only [lt_i, le_i, eq_i, lit_i] at *; omega)
        | (refine Or.inl ⟨?_, by assumption⟩; simp only [lt_i, le_i, eq_i, lit_i] at *; omega)
        | (refine Or.inr ⟨?_, by assumption⟩; simp only [lt_i, le_i, eq_i, lit_i] at *; omega)
        | assumption
        | (exfalso; simp only [lt_i, le_i, eq_i, lit_i] at *; omega))
end PC3
