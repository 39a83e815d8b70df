/-! THE CLASS on a fresh object: cheapest, worth, one, contest -/
section PC9
variable {lL : Nat} {h : mq_H} {Q : Option Value → mq_H → Prop}
theorem c_planned (f1 : mq_I h 5 0 = 0) {x : Int32} (h1 : 0 ≤ x.toInt → x.toInt ≤ 400 → Q (some (.int 1)) h) (h0 : (0 ≤ x.toInt → ¬ x.toInt ≤ 400) → Q (some (.int 0)) h) : mq_Call mq_G (mq_tT lL) 133 [.retAddr 4, .int x] h Q := by
  have e : (mq_I h 5 0 + 400).toInt = 400 := by rw [f1]; decide
  have e0 : (mq_I h 5 0).toInt = 0 := by rw [f1]; decide
  apply mq_enter 60 []
  refine bq_c (fun c => ?_) (fun c => ?_)
  · refine gq_i rfl ?_
    exact h0 (fun a => by simp only [lt_i, le_i, lit_i] at *; omega)
  · refine bq_c (fun c2 => ?_) (fun c2 => ?_)
    · refine gq_i rfl ?_
      exact h0 (fun a => by simp only [lt_i, le_i, lit_i] at *; omega)
    · refine gq_i rfl ?_
      exact h1 (by simp only [lt_i, le_i, lit_i] at *; omega) (by simp only [lt_i, le_i, lit_i] at *; omega)
theorem c_list (f2 : mq_I h 17 0 = 0) {x : Int32} (hq : ∀ h', mq_mod 54 55 0 0 h h' → mq_I h' 54 10 = 0 → mq_I h' 17 0 = 0 → (∀ k, mq_I h' 31 k = mq_I h 31 k) → Q none h') : mq_Call mq_G (mq_tT lL) 71 [.retAddr 54, .int x] h Q := by
  apply mq_enter 60 [24, 122]
  refine bq_t (by simp only [mq_I_setI]; rw [if_neg (by decide), f2]; decide) ?_
  refine bq_t (by simp [mq_I_setI]) ?_
  refine hq _ ((mq_mod.rf _ _ h).sI (Or.inl ⟨by decide, by decide⟩) _ _) rfl ?_ (fun k => ?_)
  · simp only [mq_I_setI]; rw [if_neg (by decide), f2]
  · rfl
theorem c_try (f2 : mq_I h 17 0 = 0) (f8 : ∀ k, k < 6 → mq_I h 31 k = -1) (e : mq_I h 54 0 = -1) (hq : ∀ h', mq_mod 54 55 0 0 h h' → mq_I h' 54 0 = 0 → mq_I h' 54 10 = mq_I h 54 10 → Q none h') : mq_Call mq_G (mq_tT lL) 75 [.retAddr 54, .int (-1), .int (-1)] h Q := by
  apply mq_enter 60 []
  refine c_keep f2 ?_
  refine c_cheap f8 ?_
  refine bn_t (by decide) ?_
  refine c_cost0 ?_
  refine bq_f (by rw [e]; decide) ?_
  refine hq _ ((((mq_mod.rf _ _ h).sI (Or.inl ⟨by decide, by decide⟩) _ _).sI (Or.inl ⟨by decide, by decide⟩) _ _).sI (Or.inl ⟨by decide, by decide⟩) _ _) ?_ ?_
  · simp [mq_I_setI]
  · simp [mq_I_setI]
theorem c_dear (f2 : mq_I h 17 0 = 0) (f8 : ∀ k, k < 6 → mq_I h 31 k = -1) (e : mq_I h 54 10 = 0) {x : Int32} (hq : ∀ h', mq_mod 54 55 0 0 h h' → mq_I h' 54 0 = 0 → mq_I h' 54 10 = 0 → Q none h') : mq_Call mq_G (mq_tT lL) 74 [.retAddr 54, .int x] h Q := by
  apply mq_enter 60 [21, 48]
  refine c_try (by simp [mq_I_setI, f2]) (fun k hk => by simp only [mq_I_setI]; rw [if_neg (by decide)]; exact f8 k hk) (by simp [mq_I_setI]) (fun h1 m1 e1 e2 => ?_)
  have e3 : mq_I h1 54 10 = 0 := by rw [e2]; simp [mq_I_setI, e]
  refine bq_t (by rw [e3]; decide) ?_
  refine bq_t (by rw [e3]; decide) ?_
  exact hq _ (mq_mod.tr (n1 := 0) (z1 := 0) ((mq_mod.rf _ _ h).sI (Or.inl ⟨by decide, by decide⟩) _ _) m1 (by decide) (by decide)) e1 e3
theorem f_cheapest (F : fr_C h) {x y : Int32} (hq : ∀ r h', mq_mod 4 59 200 20000 h h' → sp_v ((0 ≤ x.toInt ∧ x.toInt ≤ 400) ∧ 0 ≤ y.toInt ∧ y.toInt ≤ 1) 0 (-1) r → Q (some (.int r)) h') : mq_Call mq_G (mq_tT lL) 122 [.retAddr 4, .int x, .int y] h Q := by
  obtain ⟨f1, f2, f3, f4, f5, f6, f7, f8, f9, f10, f11⟩ := F
  apply mq_enter 60 []
  repeat' (first
      | (refine hq _ _ ?_ ?_)
      | (refine gq_i rfl ?_)
      | (refine gq_i (by apply inb_of; simp only [lt_i, le_i, eq_i, lit_i] at *; omega) ?_)
      | (refine bq_t (by decide) ?_)
      | (refine bq_f (by decide) ?_)
      | (refine bn_t (by decide) ?_)
      | (refine bn_f (by decide) ?_)
      | (refine c_planned f1 (fun a2 b2 => ?_) (fun a2 => ?_))
      | (refine c_weigh f2 ?_)
      | (refine c_keep f2 ?_)
      | (refine c_cheap f8 ?_)
      | (refine c_cost0 ?_)
      | (refine bq_c (fun c => ?_) (fun c => ?_))
      | (refine bn_c (fun c => ?_) (fun c => ?_)))
  all_goals (first
      | exact mq_mod.rf _ _ _
      | (repeat (first | exact mq_mod.rf _ _ _ | assumption | refine mq_mod.sI ?_ (Or.inl ⟨by decide, by decide⟩) _ _ | refine mq_mod.sJ ?_ (Or.inl ⟨by decide, by decide⟩) _ _ | refine mq_mod.sR ?_ (Or.inl ⟨by decide, by decide⟩) _ _)); done
      | (refine mqM2 ?_ (md_w (by assumption)); (repeat (first | exact mq_mod.rf _ _ _ | refine mq_mod.sI ?_ (Or.inl ⟨by decide, by decide⟩) _ _ | refine mq_mod.sJ ?_ (Or.inl ⟨by decide, by decide⟩) _ _ | refine mq_mod.sR ?_ (Or.inl ⟨by decide, by decide⟩) _ _)); done)
      | exact Or.inl ⟨trivial, rfl⟩
      | rfl
      | (refine Or.inl ⟨?_, rfl⟩; simp only [lt_i, le_i, eq_i, lit_i] at *; omega)
      | (refine Or.inr ⟨?_, rfl⟩; simp only [lt_i, le_i, eq_i, lit_i] at *; omega)
      | (refine Or.inl ⟨?_, by assumption⟩; simp only [lt_i, le_i, eq_i, lit_i] at *; omega)
      | (refine Or.inr ⟨?_, by assumption⟩; simp only [lt_i, le_i, eq_i, lit_i] at *; omega)
      | assumption
      | (exfalso; simp only [lt_i, le_i, eq_i, lit_i] at *; omega))
theorem f_worth (F : fr_C h) {x y z : Int32} (hq : ∀ r h', mq_mod 4 59 200 20000 h h' → sp_v ((0 ≤ x.toInt ∧ x.toInt ≤ 400) ∧ (0 ≤ y.toInt ∧ y.toInt < 10000) ∧ 0 ≤ z.toInt ∧ z.toInt ≤ 2) 0 (-1) r → Q (some (.int r)) h') : mq_Call mq_G (mq_tT lL) 123 [.retAddr 4, .int x, .int y, .int z] h Q := by
  obtain ⟨f1, f2, f3, f4, f5, f6, f7, f8, f9, f10, f11⟩ := F
  apply mq_enter 60 []
  repeat' (first
      | (refine hq _ _ ?_ ?_)
      | (refine gq_i rfl ?_)
      | (refine gq_i (by apply inb_of; simp only [lt_i, le_i, eq_i, lit_i] at *; omega) ?_)
      | (refine bq_t (by decide) ?_)
      | (refine bq_f (by decide) ?_)
      | (refine bn_t (by decide) ?_)
      | (refine bn_f (by decide) ?_)
      | (refine c_planned f1 (fun a2 b2 => ?_) (fun a2 => ?_))
      | (refine c_within (fun a3 b3 => ?_) (fun a3 => ?_))
      | (refine c_weigh f2 ?_)
      | (refine c_worth f8 ?_)
      | (refine c_sum f2 ?_)
      | (refine c_cost0 ?_)
      | (refine bq_c (fun c => ?_) (fun c => ?_))
      | (refine bn_c (fun c => ?_) (fun c => ?_)))
  all_goals (first
      | exact mq_mod.rf _ _ _
      | (repeat (first | exact mq_mod.rf _ _ _ | assumption | refine mq_mod.sI ?_ (Or.inl ⟨by decide, by decide⟩) _ _ | refine mq_mod.sJ ?_ (Or.inl ⟨by decide, by decide⟩) _ _ | refine mq_mod.sR ?_ (Or.inl ⟨by decide, by decide⟩) _ _)); done
      | (refine mqM2 ?_ (md_w (by assumption)); (repeat (first | exact mq_mod.rf _ _ _ | refine mq_mod.sI ?_ (Or.inl ⟨by decide, by decide⟩) _ _ | refine mq_mod.sJ ?_ (Or.inl ⟨by decide, by decide⟩) _ _ | refine mq_mod.sR ?_ (Or.inl ⟨by decide, by decide⟩) _ _)); done)
      | exact Or.inl ⟨trivial, rfl⟩
      | rfl
      | (refine Or.inl ⟨?_, rfl⟩; simp only [lt_i, le_i, eq_i, lit_i] at *; omega)
      | (refine Or.inr ⟨?_, rfl⟩; simp only [lt_i, le_i, eq_i, lit_i] at *; omega)
      | (refine Or.inl ⟨?_, by assumption⟩; simp only [lt_i, le_i, eq_i, lit_i] at *; omega)
      | (refine Or.inr ⟨?_, by assumption⟩; simp only [lt_i, le_i, eq_i, lit_i] at *; omega)
      | assumption
      | (exfalso; simp only [lt_i, le_i, eq_i, lit_i] at *; omega))
theorem f_one (F : fr_C h) {x y : Int32} (hq : ∀ r h', mq_mod 4 59 200 20000 h h' → sp_v ((0 ≤ x.toInt ∧ x.toInt ≤ 400) ∧ y.toInt = 1) 0 (-1) r → Q (some (.int r)) h') : mq_Call mq_G (mq_tT lL) 124 [.retAddr 4, .int x, .int y] h Q := by
  obtain ⟨f1, f2, f3, f4, f5, f6, f7, f8, f9, f10, f11⟩ := F
  apply mq_enter 60 []
  repeat' (first
      | (refine hq _ _ ?_ ?_)
      | (refine gq_i rfl ?_)
      | (refine gq_i (by apply inb_of; simp only [lt_i, le_i, eq_i, lit_i] at *; omega) ?_)
      | (refine bq_t (by decide) ?_)
      | (refine bq_f (by decide) ?_)
      | (refine bn_t (by decide) ?_)
      | (refine bn_f (by decide) ?_)
      | (refine c_planned f1 (fun a2 b2 => ?_) (fun a2 => ?_))
      | (refine c_weigh f2 ?_)
      | (refine c_best f8 ?_)
      | (refine bq_c (fun c => ?_) (fun c => ?_))
      | (refine bn_c (fun c => ?_) (fun c => ?_)))
  all_goals (first
      | exact mq_mod.rf _ _ _
      | (repeat (first | exact mq_mod.rf _ _ _ | assumption | refine mq_mod.sI ?_ (Or.inl ⟨by decide, by decide⟩) _ _ | refine mq_mod.sJ ?_ (Or.inl ⟨by decide, by decide⟩) _ _ | refine mq_mod.sR ?_ (Or.inl ⟨by decide, by decide⟩) _ _)); done
      | (refine mqM2 ?_ (md_w (by assumption)); (repeat (first | exact mq_mod.rf _ _ _ | refine mq_mod.sI ?_ (Or.inl ⟨by decide, by decide⟩) _ _ | refine mq_mod.sJ ?_ (Or.inl ⟨by decide, by decide⟩) _ _ | refine mq_mod.sR ?_ (Or.inl ⟨by decide, by decide⟩) _ _)); done)
      | exact Or.inl ⟨trivial, rfl⟩
      | rfl
      | (refine Or.inl ⟨?_, rfl⟩; simp only [lt_i, le_i, eq_i, lit_i] at *; omega)
      | (refine Or.inr ⟨?_, rfl⟩; simp only [lt_i, le_i, eq_i, lit_i] at *; omega)
      | (refine Or.inl ⟨?_, by assumption⟩; simp only [lt_i, le_i, eq_i, lit_i] at *; omega)
      | (refine Or.inr ⟨?_, by assumption⟩; simp only [lt_i, le_i, eq_i, lit_i] at *; omega)
      | assumption
      | (exfalso; simp only [lt_i, le_i, eq_i, lit_i] at *; omega))
theorem c_contAt {x : Int32} (e : mq_I h 54 10 = 0) (hq : Q (some (.int (-1))) h) : mq_Call mq_G (mq_tT lL) 73 [.retAddr 54, .int x] h Q := by
  apply mq_enter 60 [11]
  refine c_within (fun a b => ?_) (fun a => ?_)
  · rw [e] at b
    simp only [lit_i] at b
    omega
  · refine bq_t (by decide) ?_
    exact hq
theorem f_contest (F : fr_C h) {x y z : Int32} (hq : ∀ r h', mq_mod 4 59 200 20000 h h' → sp_v ((0 ≤ x.toInt ∧ x.toInt ≤ 400) ∧ (0 ≤ y.toInt ∧ y.toInt ≤ 2) ∧ z.toInt = 0) 0 (-1) r → Q (some (.int r)) h') : mq_Call mq_G (mq_tT lL) 126 [.retAddr 4, .int x, .int y, .int z] h Q := by
  obtain ⟨f1, f2, f3, f4, f5, f6, f7, f8, f9, f10, f11⟩ := F
  have go : (0 ≤ x.toInt ∧ x.toInt ≤ 400) → (0 ≤ y.toInt ∧ y.toInt ≤ 2) → mq_At mq_G (mq_tT lL) 126 37 [some (.retAddr 4), some (.int x), some (.int y), some (.int z)] [] h Q := by
    intro k1 k2
    apply mq_go 60 []
    refine c_weigh f2 ?_
    refine c_list f2 (fun h1 m1 e1 e2 e3 => ?_)
    refine c_dear e2 (fun k hk => (e3 k).trans (f8 k hk)) e1 (fun h2 m2 e4 e5 => ?_)
    have mm := (mq_mod.tr (n := 0) (z := 0) m1 m2 (by decide) (by decide)).wd (lo' := 4) (hi' := 59) (n' := 200) (z' := 20000) (by decide) (by decide) (by decide) (by decide)
    refine bn_c (fun c => ?_) (fun c => ?_)
    · refine bn_c (fun c2 => ?_) (fun c2 => ?_)
      · refine c_contAt e5 ?_
        refine hq _ _ mm (Or.inr ⟨?_, rfl⟩)
        simp only [lt_i, le_i, eq_i, lit_i] at *
        omega
      · refine c_contAt e5 ?_
        refine hq _ _ mm (Or.inr ⟨?_, rfl⟩)
        simp only [lt_i, le_i, eq_i, lit_i] at *
        omega
    · refine hq _ _ mm (Or.inl ⟨?_, e4⟩)
      simp only [lt_i, le_i, eq_i, lit_i] at *
      omega
  apply mq_enter 60 [37]
  repeat' (first
      | (refine hq _ _ ?_ ?_)
      | (refine gq_i rfl ?_)
      | (refine gq_i (by apply inb_of; simp only [lt_i, le_i, eq_i, lit_i] at *; omega) ?_)
      | (refine bq_t (by decide) ?_)
      | (refine bq_f (by decide) ?_)
      | (refine bn_t (by decide) ?_)
      | (refine bn_f (by decide) ?_)
      | (refine c_planned f1 (fun a2 b2 => ?_) (fun a2 => ?_))
      | (refine bq_c (fun c => ?_) (fun c => ?_))
      | (refine bn_c (fun c => ?_) (fun c => ?_)))
  all_goals (first | (refine go ?_ ?_ <;> (simp only [lt_i, le_i, eq_i, lit_i] at *; omega)) | skip)
  all_goals (first
      | exact mq_mod.rf _ _ _
      | (repeat (first | exact mq_mod.rf _ _ _ | assumption | refine mq_mod.sI ?_ (Or.inl ⟨by decide, by decide⟩) _ _ | refine mq_mod.sJ ?_ (Or.inl ⟨by decide, by decide⟩) _ _ | refine mq_mod.sR ?_ (Or.inl ⟨by decide, by decide⟩) _ _)); done
      | (refine mqM2 ?_ (md_w (by assumption)); (repeat (first | exact mq_mod.rf _ _ _ | refine mq_mod.sI ?_ (Or.inl ⟨by decide, by decide⟩) _ _ | refine mq_mod.sJ ?_ (Or.inl ⟨by decide, by decide⟩) _ _ | refine mq_mod.sR ?_ (Or.inl ⟨by decide, by decide⟩) _ _)); done)
      | exact Or.inl ⟨trivial, rfl⟩
      | rfl
      | (refine Or.inl ⟨?_, rfl⟩; simp only [lt_i, le_i, eq_i, lit_i] at *; omega)
      | (refine Or.inr ⟨?_, rfl⟩; simp only [lt_i, le_i, eq_i, lit_i] at *; omega)
      | (refine Or.inl ⟨?_, by assumption⟩; simp only [lt_i, le_i, eq_i, lit_i] at *; omega)
      | (refine Or.inr ⟨?_, by assumption⟩; simp only [lt_i, le_i, eq_i, lit_i] at *; omega)
      | assumption
      | (exfalso; simp only [lt_i, le_i, eq_i, lit_i] at *; omega))
end PC9
