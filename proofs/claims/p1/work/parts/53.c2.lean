/-! THE CLASS on a fresh object: calls that write -/
section PC4
variable {lL : Nat} {h : mq_H} {Q : Option Value → mq_H → Prop}
theorem f_today (F : fr_C h) {x : Int32} (hq : ∀ r h', mq_mod 4 59 200 20000 h h' → sp_b (0 ≤ x.toInt ∧ x.toInt < 3000) r → Q (some (.int r)) h') : mq_Call mq_G (mq_tT lL) 103 [.retAddr 4, .int x] h Q := by
  obtain ⟨f1, f2, f3, f4, f5, f6, f7, f8, f9, f10, f11⟩ := F
  apply mq_enter 90 []
  refine bq_c (fun c => ?_) (fun c => ?_)
  · repeat' (first
        | (refine hq _ _ ?_ ?_)
        | (refine gq_i rfl ?_)
        | (refine gq_i (by apply inb_of; simp only [lt_i, le_i, eq_i, lit_i] at *; omega) ?_)
        | (refine bq_t (by decide) ?_)
        | (refine bq_f (by decide) ?_)
        | (refine bn_t (by decide) ?_)
        | (refine bn_f (by decide) ?_)
        | (refine bq_c (fun c => ?_) (fun c => ?_))
        | (refine bn_c (fun c => ?_) (fun c => ?_)))
    all_goals (first
        | exact mq_mod.rf _ _ _
        | (repeat (first | exact mq_mod.rf _ _ _ | assumption | refine mq_mod.sI ?_ (Or.inl ⟨by decide, by decide⟩) _ _ | refine mq_mod.sJ ?_ (Or.inl ⟨by decide, by decide⟩) _ _ | refine mq_mod.sR ?_ (Or.inl ⟨by decide, by decide⟩) _ _)); done
        | (refine mqM2 ?_ (md_w (by assumption)); (repeat (first | exact mq_mod.rf _ _ _ | refine mq_mod.sI ?_ (Or.inl ⟨by decide, by decide⟩) _ _ | refine mq_mod.sJ ?_ (Or.inl ⟨by decide, by decide⟩) _ _ | refine mq_mod.sR ?_ (Or.inl ⟨by decide, by decide⟩) _ _)); done)
        | exact Or.inl ⟨trivial, rfl⟩
        | rfl
        | (refine Or.inl ⟨?_, rfl⟩; simp only [lt_i, le_i, eq_i, lit_i] at *; omega)
        | (refine Or.inr ⟨?_, rfl⟩; simp only [lt_i, le_i, eq_i, lit_i] at *; omega)
        | (refine Or.inl ⟨?_, by assumption⟩; simp only [lt_i, le_i, eq_i, lit_i] at *; omega)
        | (refine Or.inr ⟨?_, by assumption⟩; simp only [lt_i, le_i, eq_i, lit_i] at *; omega)
        | assumption
        | (exfalso; simp only [lt_i, le_i, eq_i, lit_i] at *; omega))
  · refine bq_c (fun c2 => ?_) (fun c2 => ?_)
    · refine c_drop (fun h' m => ?_)
      refine gq_i rfl ?_
      refine hq _ _ ?_ ?_
      all_goals (first
          | exact mq_mod.rf _ _ _
          | (repeat (first | exact mq_mod.rf _ _ _ | assumption | refine mq_mod.sI ?_ (Or.inl ⟨by decide, by decide⟩) _ _ | refine mq_mod.sJ ?_ (Or.inl ⟨by decide, by decide⟩) _ _ | refine mq_mod.sR ?_ (Or.inl ⟨by decide, by decide⟩) _ _)); done
          | (refine mqM2 ?_ (md_w (by assumption)); (repeat (first | exact mq_mod.rf _ _ _ | refine mq_mod.sI ?_ (Or.inl ⟨by decide, by decide⟩) _ _ | refine mq_mod.sJ ?_ (Or.inl ⟨by decide, by decide⟩) _ _ | refine mq_mod.sR ?_ (Or.inl ⟨by decide, by decide⟩) _ _)); done)
          | exact Or.inl ⟨trivial, rfl⟩
          | rfl
          | (refine Or.inl ⟨?_, rfl⟩; simp only [lt_i, le_i, eq_i, lit_i] at *; omega)
          | (refine Or.inr ⟨?_, rfl⟩; simp only [lt_i, le_i, eq_i, lit_i] at *; omega)
          | (refine Or.inl ⟨?_, by assumption⟩; simp only [lt_i, le_i, eq_i, lit_i] at *; omega)
          | (refine Or.inr ⟨?_, by assumption⟩; simp only [lt_i, le_i, eq_i, lit_i] at *; omega)
          | assumption
          | (exfalso; simp only [lt_i, le_i, eq_i, lit_i] at *; omega))
    · repeat' (first
          | (refine hq _ _ ?_ ?_)
          | (refine gq_i rfl ?_)
          | (refine gq_i (by apply inb_of; simp only [lt_i, le_i, eq_i, lit_i] at *; omega) ?_)
          | (refine bq_t (by decide) ?_)
          | (refine bq_f (by decide) ?_)
          | (refine bn_t (by decide) ?_)
          | (refine bn_f (by decide) ?_)
          | (refine bq_c (fun c => ?_) (fun c => ?_))
          | (refine bn_c (fun c => ?_) (fun c => ?_)))
      all_goals (first
          | exact mq_mod.rf _ _ _
          | (repeat (first | exact mq_mod.rf _ _ _ | assumption | refine mq_mod.sI ?_ (Or.inl ⟨by decide, by decide⟩) _ _ | refine mq_mod.sJ ?_ (Or.inl ⟨by decide, by decide⟩) _ _ | refine mq_mod.sR ?_ (Or.inl ⟨by decide, by decide⟩) _ _)); done
          | (refine mqM2 ?_ (md_w (by assumption)); (repeat (first | exact mq_mod.rf _ _ _ | refine mq_mod.sI ?_ (Or.inl ⟨by decide, by decide⟩) _ _ | refine mq_mod.sJ ?_ (Or.inl ⟨by decide, by decide⟩) _ _ | refine mq_mod.sR ?_ (Or.inl ⟨by decide, by decide⟩) _ _)); done)
          | exact Or.inl ⟨trivial, rfl⟩
          | rfl
          | (refine Or.inl ⟨?_, rfl⟩; simp only [lt_i, le_i, eq_i, lit_i] at *; omega)
          | (refine Or.inr ⟨?_, rfl⟩; simp only [lt_i, le_i, eq_i, lit_i] at *; omega)
          | (refine Or.inl ⟨?_, by assumption⟩; simp only [lt_i, le_i, eq_i, lit_i] at *; omega)
          | (refine Or.inr ⟨?_, by assumption⟩; simp only [lt_i, le_i, eq_i, lit_i] at *; omega)
          | assumption
          | (exfalso; simp only [lt_i, le_i, eq_i, lit_i] at *; omega))
theorem f_holiday (F : fr_C h) {x : Int32} (hq : ∀ r h', mq_mod 4 59 200 20000 h h' → sp_b (0 ≤ x.toInt ∧ x.toInt < 5000) r → Q (some (.int r)) h') : mq_Call mq_G (mq_tT lL) 104 [.retAddr 4, .int x] h Q := by
  obtain ⟨f1, f2, f3, f4, f5, f6, f7, f8, f9, f10, f11⟩ := F
  apply mq_enter 90 []
  refine c_within (fun a b => ?_) (fun a => ?_)
  · refine bq_f (by decide) ?_
    apply mq_enter 90 []
    apply mq_enter 90 []
    refine bq_t (by rw [f3]; decide) ?_
    refine gq_i rfl ?_
    refine bq_t (by decide) ?_
    refine bq_t (by rw [f3]; decide) ?_
    refine gq_i (by rw [f3]; decide) ?_
    refine gq_i rfl ?_
    refine bn_t (by decide) ?_
    refine c_forgetAll (fun h' m => ?_)
    refine gq_i rfl ?_
    refine hq _ _ ?_ ?_
    all_goals (first
        | exact mq_mod.rf _ _ _
        | (repeat (first | exact mq_mod.rf _ _ _ | assumption | refine mq_mod.sI ?_ (Or.inl ⟨by decide, by decide⟩) _ _ | refine mq_mod.sJ ?_ (Or.inl ⟨by decide, by decide⟩) _ _ | refine mq_mod.sR ?_ (Or.inl ⟨by decide, by decide⟩) _ _)); done
        | (refine mqM2 ?_ (md_w (by assumption)); (repeat (first | exact mq_mod.rf _ _ _ | refine mq_mod.sI ?_ (Or.inl ⟨by decide, by decide⟩) _ _ | refine mq_mod.sJ ?_ (Or.inl ⟨by decide, by decide⟩) _ _ | refine mq_mod.sR ?_ (Or.inl ⟨by decide, by decide⟩) _ _)); done)
        | exact Or.inl ⟨trivial, rfl⟩
        | rfl
        | (refine Or.inl ⟨?_, rfl⟩; simp only [lt_i, le_i, eq_i, lit_i] at *; omega)
        | (refine Or.inr ⟨?_, rfl⟩; simp only [lt_i, le_i, eq_i, lit_i] at *; omega)
        | (refine Or.inl ⟨?_, by assumption⟩; simp only [lt_i, le_i, eq_i, lit_i] at *; omega)
        | (refine Or.inr ⟨?_, by assumption⟩; simp only [lt_i, le_i, eq_i, lit_i] at *; omega)
        | assumption
        | (exfalso; simp only [lt_i, le_i, eq_i, lit_i] at *; omega))
  · repeat' (first
        | (refine hq _ _ ?_ ?_)
        | (refine gq_i rfl ?_)
        | (refine gq_i (by apply inb_of; simp only [lt_i, le_i, eq_i, lit_i] at *; omega) ?_)
        | (refine bq_t (by decide) ?_)
        | (refine bq_f (by decide) ?_)
        | (refine bn_t (by decide) ?_)
        | (refine bn_f (by decide) ?_)
        | (refine bq_c (fun c => ?_) (fun c => ?_))
        | (refine bn_c (fun c => ?_) (fun c => ?_)))
    all_goals (first
        | exact mq_mod.rf _ _ _
        | (repeat (first | exact mq_mod.rf _ _ _ | assumption | refine mq_mod.sI ?_ (Or.inl ⟨by decide, by decide⟩) _ _ | refine mq_mod.sJ ?_ (Or.inl ⟨by decide, by decide⟩) _ _ | refine mq_mod.sR ?_ (Or.inl ⟨by decide, by decide⟩) _ _)); done
        | (refine mqM2 ?_ (md_w (by assumption)); (repeat (first | exact mq_mod.rf _ _ _ | refine mq_mod.sI ?_ (Or.inl ⟨by decide, by decide⟩) _ _ | refine mq_mod.sJ ?_ (Or.inl ⟨by decide, by decide⟩) _ _ | refine mq_mod.sR ?_ (Or.inl ⟨by decide, by decide⟩) _ _)); done)
        | exact Or.inl ⟨trivial, rfl⟩
        | rfl
        | (refine Or.inl ⟨?_, rfl⟩; simp only [lt_i, le_i, eq_i, lit_i] at *; omega)
        | (refine Or.inr ⟨?_, rfl⟩; simp only [lt_i, le_i, eq_i, lit_i] at *; omega)
        | (refine Or.inl ⟨?_, by assumption⟩; simp only [lt_i, le_i, eq_i, lit_i] at *; omega)
        | (refine Or.inr ⟨?_, by assumption⟩; simp only [lt_i, le_i, eq_i, lit_i] at *; omega)
        | assumption
        | (exfalso; simp only [lt_i, le_i, eq_i, lit_i] at *; omega))
theorem f_place (F : fr_C h) {x y : Int32} (hq : ∀ r h', mq_mod 4 59 200 20000 h h' → sp_b ((0 ≤ x.toInt ∧ x.toInt < 6) ∧ 0 ≤ y.toInt ∧ y.toInt < 8) r → Q (some (.int r)) h') : mq_Call mq_G (mq_tT lL) 105 [.retAddr 4, .int x, .int y] h Q := by
  obtain ⟨f1, f2, f3, f4, f5, f6, f7, f8, f9, f10, f11⟩ := F
  apply mq_enter 90 []
  refine c_within (fun a b => ?_) (fun a => ?_)
  · refine bq_f (by decide) ?_
    refine c_within (fun a2 b2 => ?_) (fun a2 => ?_)
    · refine bn_t (by decide) ?_
      refine gq_i (inb_of ⟨a, b⟩) ?_
      refine c_forgetAll (fun h' m => ?_)
      refine gq_i rfl ?_
      refine hq _ _ ?_ ?_
      all_goals (first
          | exact mq_mod.rf _ _ _
          | (repeat (first | exact mq_mod.rf _ _ _ | assumption | refine mq_mod.sI ?_ (Or.inl ⟨by decide, by decide⟩) _ _ | refine mq_mod.sJ ?_ (Or.inl ⟨by decide, by decide⟩) _ _ | refine mq_mod.sR ?_ (Or.inl ⟨by decide, by decide⟩) _ _)); done
          | (refine mqM2 ?_ (md_w (by assumption)); (repeat (first | exact mq_mod.rf _ _ _ | refine mq_mod.sI ?_ (Or.inl ⟨by decide, by decide⟩) _ _ | refine mq_mod.sJ ?_ (Or.inl ⟨by decide, by decide⟩) _ _ | refine mq_mod.sR ?_ (Or.inl ⟨by decide, by decide⟩) _ _)); done)
          | exact Or.inl ⟨trivial, rfl⟩
          | rfl
          | (refine Or.inl ⟨?_, rfl⟩; simp only [lt_i, le_i, eq_i, lit_i] at *; omega)
          | (refine Or.inr ⟨?_, rfl⟩; simp only [lt_i, le_i, eq_i, lit_i] at *; omega)
          | (refine Or.inl ⟨?_, by assumption⟩; simp only [lt_i, le_i, eq_i, lit_i] at *; omega)
          | (refine Or.inr ⟨?_, by assumption⟩; simp only [lt_i, le_i, eq_i, lit_i] at *; omega)
          | assumption
          | (exfalso; simp only [lt_i, le_i, eq_i, lit_i] at *; omega))
    · repeat' (first
          | (refine hq _ _ ?_ ?_)
          | (refine gq_i rfl ?_)
          | (refine gq_i (by apply inb_of; simp only [lt_i, le_i, eq_i, lit_i] at *; omega) ?_)
          | (refine bq_t (by decide) ?_)
          | (refine bq_f (by decide) ?_)
          | (refine bn_t (by decide) ?_)
          | (refine bn_f (by decide) ?_)
          | (refine bq_c (fun c => ?_) (fun c => ?_))
          | (refine bn_c (fun c => ?_) (fun c => ?_)))
      all_goals (first
          | exact mq_mod.rf _ _ _
          | (repeat (first | exact mq_mod.rf _ _ _ | assumption | refine mq_mod.sI ?_ (Or.inl ⟨by decide, by decide⟩) _ _ | refine mq_mod.sJ ?_ (Or.inl ⟨by decide, by decide⟩) _ _ | refine mq_mod.sR ?_ (Or.inl ⟨by decide, by decide⟩) _ _)); done
          | (refine mqM2 ?_ (md_w (by assumption)); (repeat (first | exact mq_mod.rf _ _ _ | refine mq_mod.sI ?_ (Or.inl ⟨by decide, by decide⟩) _ _ | refine mq_mod.sJ ?_ (Or.inl ⟨by decide, by decide⟩) _ _ | refine mq_mod.sR ?_ (Or.inl ⟨by decide, by decide⟩) _ _)); done)
          | exact Or.inl ⟨trivial, rfl⟩
          | rfl
          | (refine Or.inl ⟨?_, rfl⟩; simp only [lt_i, le_i, eq_i, lit_i] at *; omega)
          | (refine Or.inr ⟨?_, rfl⟩; simp only [lt_i, le_i, eq_i, lit_i] at *; omega)
          | (refine Or.inl ⟨?_, by assumption⟩; simp only [lt_i, le_i, eq_i, lit_i] at *; omega)
          | (refine Or.inr ⟨?_, by assumption⟩; simp only [lt_i, le_i, eq_i, lit_i] at *; omega)
          | assumption
          | (exfalso; simp only [lt_i, le_i, eq_i, lit_i] at *; omega))
  · repeat' (first
        | (refine hq _ _ ?_ ?_)
        | (refine gq_i rfl ?_)
        | (refine gq_i (by apply inb_of; simp only [lt_i, le_i, eq_i, lit_i] at *; omega) ?_)
        | (refine bq_t (by decide) ?_)
        | (refine bq_f (by decide) ?_)
        | (refine bn_t (by decide) ?_)
        | (refine bn_f (by decide) ?_)
        | (refine bq_c (fun c => ?_) (fun c => ?_))
        | (refine bn_c (fun c => ?_) (fun c => ?_)))
    all_goals (first
        | exact mq_mod.rf _ _ _
        | (repeat (first | exact mq_mod.rf _ _ _ | assumption | refine mq_mod.sI ?_ (Or.inl ⟨by decide, by decide⟩) _ _ | refine mq_mod.sJ ?_ (Or.inl ⟨by decide, by decide⟩) _ _ | refine mq_mod.sR ?_ (Or.inl ⟨by decide, by decide⟩) _ _)); done
        | (refine mqM2 ?_ (md_w (by assumption)); (repeat (first | exact mq_mod.rf _ _ _ | refine mq_mod.sI ?_ (Or.inl ⟨by decide, by decide⟩) _ _ | refine mq_mod.sJ ?_ (Or.inl ⟨by decide, by decide⟩) _ _ | refine mq_mod.sR ?_ (Or.inl ⟨by decide, by decide⟩) _ _)); done)
        | exact Or.inl ⟨trivial, rfl⟩
        | rfl
        | (refine Or.inl ⟨?_, rfl⟩; simp only [lt_i, le_i, eq_i, lit_i] at *; omega)
        | (refine Or.inr ⟨?_, rfl⟩; simp only [lt_i, le_i, eq_i, lit_i] at *; omega)
        | (refine Or.inl ⟨?_, by assumption⟩; simp only [lt_i, le_i, eq_i, lit_i] at *; omega)
        | (refine Or.inr ⟨?_, by assumption⟩; simp only [lt_i, le_i, eq_i, lit_i] at *; omega)
        | assumption
        | (exfalso; simp only [lt_i, le_i, eq_i, lit_i] at *; omega))
theorem f_changed (F : fr_C h) {x y : Int32} (hq : ∀ r h', mq_mod 4 59 200 20000 h h' → r = -1 → Q (some (.int r)) h') : mq_Call mq_G (mq_tT lL) 117 [.retAddr 4, .int x, .int y] h Q := by
  obtain ⟨f1, f2, f3, f4, f5, f6, f7, f8, f9, f10, f11⟩ := F
  apply mq_enter 90 [37]
  refine c_within (fun a b => ?_) (fun a => ?_)
  · repeat' (first
        | (refine hq _ _ ?_ ?_)
        | (refine gq_i rfl ?_)
        | (refine gq_i (by apply inb_of; simp only [lt_i, le_i, eq_i, lit_i] at *; omega) ?_)
        | (refine bq_t (by decide) ?_)
        | (refine bq_f (by decide) ?_)
        | (refine bn_t (by decide) ?_)
        | (refine bn_f (by decide) ?_)
        | (refine gq_i (inb_of ⟨a, b⟩) ?_)
        | (refine bn_f (f4 _ (cl_lt a b)) ?_)
        | (refine bq_c (fun c => ?_) (fun c => ?_))
        | (refine bn_c (fun c => ?_) (fun c => ?_)))
    all_goals (first
        | exact mq_mod.rf _ _ _
        | (repeat (first | exact mq_mod.rf _ _ _ | assumption | refine mq_mod.sI ?_ (Or.inl ⟨by decide, by decide⟩) _ _ | refine mq_mod.sJ ?_ (Or.inl ⟨by decide, by decide⟩) _ _ | refine mq_mod.sR ?_ (Or.inl ⟨by decide, by decide⟩) _ _)); done
        | (refine mqM2 ?_ (md_w (by assumption)); (repeat (first | exact mq_mod.rf _ _ _ | refine mq_mod.sI ?_ (Or.inl ⟨by decide, by decide⟩) _ _ | refine mq_mod.sJ ?_ (Or.inl ⟨by decide, by decide⟩) _ _ | refine mq_mod.sR ?_ (Or.inl ⟨by decide, by decide⟩) _ _)); done)
        | exact Or.inl ⟨trivial, rfl⟩
        | rfl
        | (refine Or.inl ⟨?_, rfl⟩; simp only [lt_i, le_i, eq_i, lit_i] at *; omega)
        | (refine Or.inr ⟨?_, rfl⟩; simp only [lt_i, le_i, eq_i, lit_i] at *; omega)
        | (refine Or.inl ⟨?_, by assumption⟩; simp only [lt_i, le_i, eq_i, lit_i] at *; omega)
        | (refine Or.inr ⟨?_, by assumption⟩; simp only [lt_i, le_i, eq_i, lit_i] at *; omega)
        | assumption
        | (exfalso; simp only [lt_i, le_i, eq_i, lit_i] at *; omega))
  · repeat' (first
        | (refine hq _ _ ?_ ?_)
        | (refine gq_i rfl ?_)
        | (refine gq_i (by apply inb_of; simp only [lt_i, le_i, eq_i, lit_i] at *; omega) ?_)
        | (refine bq_t (by decide) ?_)
        | (refine bq_f (by decide) ?_)
        | (refine bn_t (by decide) ?_)
        | (refine bn_f (by decide) ?_)
        | (refine bq_c (fun c => ?_) (fun c => ?_))
        | (refine bn_c (fun c => ?_) (fun c => ?_)))
    all_goals (first
        | exact mq_mod.rf _ _ _
        | (repeat (first | exact mq_mod.rf _ _ _ | assumption | refine mq_mod.sI ?_ (Or.inl ⟨by decide, by decide⟩) _ _ | refine mq_mod.sJ ?_ (Or.inl ⟨by decide, by decide⟩) _ _ | refine mq_mod.sR ?_ (Or.inl ⟨by decide, by decide⟩) _ _)); done
        | (refine mqM2 ?_ (md_w (by assumption)); (repeat (first | exact mq_mod.rf _ _ _ | refine mq_mod.sI ?_ (Or.inl ⟨by decide, by decide⟩) _ _ | refine mq_mod.sJ ?_ (Or.inl ⟨by decide, by decide⟩) _ _ | refine mq_mod.sR ?_ (Or.inl ⟨by decide, by decide⟩) _ _)); done)
        | exact Or.inl ⟨trivial, rfl⟩
        | rfl
        | (refine Or.inl ⟨?_, rfl⟩; simp only [lt_i, le_i, eq_i, lit_i] at *; omega)
        | (refine Or.inr ⟨?_, rfl⟩; simp only [lt_i, le_i, eq_i, lit_i] at *; omega)
        | (refine Or.inl ⟨?_, by assumption⟩; simp only [lt_i, le_i, eq_i, lit_i] at *; omega)
        | (refine Or.inr ⟨?_, by assumption⟩; simp only [lt_i, le_i, eq_i, lit_i] at *; omega)
        | assumption
        | (exfalso; simp only [lt_i, le_i, eq_i, lit_i] at *; omega))
end PC4
section PC5
variable {lL : Nat} {h : mq_H} {Q : Option Value → mq_H → Prop}
theorem c_putChange (f4 : ∀ k, k < 6 → mq_I h 9 k = 0) {x y z w : Int32} (a : 0 ≤ x.toInt) (b : x.toInt < 6) (hw : mq_bit w = true) (hq : ∀ h', mq_mod 4 59 0 0 h h' → Q (some (.int 1)) h') : mq_Call mq_G (mq_tT lL) 59 [.retAddr 6, .int x, .int y, .int z, .int w] h Q := by
  have e := f4 _ (cl_lt a b)
  have m4 : (x * 4).toInt = x.toInt * 4 := by
    rw [Int32.toInt_mul, show (4 : Int32).toInt = 4 by decide]
    exact Int.bmod_eq_of_le (by omega) (by omega)
  have m5 : 0 ≤ (x * 4 + 0).toInt ∧ (x * 4 + 0).toInt < 24 := by
    rw [Int32.add_zero, m4]
    omega
  apply mq_enter 90 []
  refine gq_i (inb_of ⟨a, b⟩) ?_
  rw [e]
  refine bq_f (by decide) ?_
  refine bq_t (by decide) ?_
  refine gq_i (inb_of m5) ?_
  refine gq_i (inb_of m5) ?_
  refine gq_i (by rw [inb_of m5, hw]; rfl) ?_
  refine gq_i (inb_of ⟨a, b⟩) ?_
  refine gq_i rfl ?_
  refine hq _ ?_
  all_goals (first
      | exact mq_mod.rf _ _ _
      | (repeat (first | exact mq_mod.rf _ _ _ | assumption | refine mq_mod.sI ?_ (Or.inl ⟨by decide, by decide⟩) _ _ | refine mq_mod.sJ ?_ (Or.inl ⟨by decide, by decide⟩) _ _ | refine mq_mod.sR ?_ (Or.inl ⟨by decide, by decide⟩) _ _)); done
      | (refine mqM2 ?_ (md_w (by assumption)); (repeat (first | exact mq_mod.rf _ _ _ | refine mq_mod.sI ?_ (Or.inl ⟨by decide, by decide⟩) _ _ | refine mq_mod.sJ ?_ (Or.inl ⟨by decide, by decide⟩) _ _ | refine mq_mod.sR ?_ (Or.inl ⟨by decide, by decide⟩) _ _)); done)
      | exact Or.inl ⟨trivial, rfl⟩
      | rfl
      | (refine Or.inl ⟨?_, rfl⟩; simp only [lt_i, le_i, eq_i, lit_i] at *; omega)
      | (refine Or.inr ⟨?_, rfl⟩; simp only [lt_i, le_i, eq_i, lit_i] at *; omega)
      | (refine Or.inl ⟨?_, by assumption⟩; simp only [lt_i, le_i, eq_i, lit_i] at *; omega)
      | (refine Or.inr ⟨?_, by assumption⟩; simp only [lt_i, le_i, eq_i, lit_i] at *; omega)
      | assumption
      | (exfalso; simp only [lt_i, le_i, eq_i, lit_i] at *; omega))
theorem f_change (F : fr_C h) {x y z w : Int32} (hw : mq_bit w = true) (hq : ∀ r h', mq_mod 4 59 200 20000 h h' → sp_b ((0 ≤ x.toInt ∧ x.toInt < 6) ∧ (1 ≤ y.toInt ∧ y.toInt < 3000) ∧ 0 ≤ z.toInt ∧ z.toInt < 8) r → Q (some (.int r)) h') : mq_Call mq_G (mq_tT lL) 106 [.retAddr 4, .int x, .int y, .int z, .int w] h Q := by
  obtain ⟨f1, f2, f3, f4, f5, f6, f7, f8, f9, f10, f11⟩ := F
  apply mq_enter 90 []
  refine c_within (fun a b => ?_) (fun a => ?_)
  · refine bq_f (by decide) ?_
    refine bq_c (fun c1 => ?_) (fun c1 => ?_)
    · repeat' (first
          | (refine hq _ _ ?_ ?_)
          | (refine gq_i rfl ?_)
          | (refine gq_i (by apply inb_of; simp only [lt_i, le_i, eq_i, lit_i] at *; omega) ?_)
          | (refine bq_t (by decide) ?_)
          | (refine bq_f (by decide) ?_)
          | (refine bn_t (by decide) ?_)
          | (refine bn_f (by decide) ?_)
          | (refine bq_c (fun c => ?_) (fun c => ?_))
          | (refine bn_c (fun c => ?_) (fun c => ?_)))
      all_goals (first
          | exact mq_mod.rf _ _ _
          | (repeat (first | exact mq_mod.rf _ _ _ | assumption | refine mq_mod.sI ?_ (Or.inl ⟨by decide, by decide⟩) _ _ | refine mq_mod.sJ ?_ (Or.inl ⟨by decide, by decide⟩) _ _ | refine mq_mod.sR ?_ (Or.inl ⟨by decide, by decide⟩) _ _)); done
          | (refine mqM2 ?_ (md_w (by assumption)); (repeat (first | exact mq_mod.rf _ _ _ | refine mq_mod.sI ?_ (Or.inl ⟨by decide, by decide⟩) _ _ | refine mq_mod.sJ ?_ (Or.inl ⟨by decide, by decide⟩) _ _ | refine mq_mod.sR ?_ (Or.inl ⟨by decide, by decide⟩) _ _)); done)
          | exact Or.inl ⟨trivial, rfl⟩
          | rfl
          | (refine Or.inl ⟨?_, rfl⟩; simp only [lt_i, le_i, eq_i, lit_i] at *; omega)
          | (refine Or.inr ⟨?_, rfl⟩; simp only [lt_i, le_i, eq_i, lit_i] at *; omega)
          | (refine Or.inl ⟨?_, by assumption⟩; simp only [lt_i, le_i, eq_i, lit_i] at *; omega)
          | (refine Or.inr ⟨?_, by assumption⟩; simp only [lt_i, le_i, eq_i, lit_i] at *; omega)
          | assumption
          | (exfalso; simp only [lt_i, le_i, eq_i, lit_i] at *; omega))
    · refine bq_c (fun c2 => ?_) (fun c2 => ?_)
      · repeat' (first
            | (refine hq _ _ ?_ ?_)
            | (refine gq_i rfl ?_)
            | (refine gq_i (by apply inb_of; simp only [lt_i, le_i, eq_i, lit_i] at *; omega) ?_)
            | (refine bq_t (by decide) ?_)
            | (refine bq_f (by decide) ?_)
            | (refine bn_t (by decide) ?_)
            | (refine bn_f (by decide) ?_)
            | (refine bq_c (fun c => ?_) (fun c => ?_))
            | (refine bn_c (fun c => ?_) (fun c => ?_)))
        all_goals (first
            | exact mq_mod.rf _ _ _
            | (repeat (first | exact mq_mod.rf _ _ _ | assumption | refine mq_mod.sI ?_ (Or.inl ⟨by decide, by decide⟩) _ _ | refine mq_mod.sJ ?_ (Or.inl ⟨by decide, by decide⟩) _ _ | refine mq_mod.sR ?_ (Or.inl ⟨by decide, by decide⟩) _ _)); done
            | (refine mqM2 ?_ (md_w (by assumption)); (repeat (first | exact mq_mod.rf _ _ _ | refine mq_mod.sI ?_ (Or.inl ⟨by decide, by decide⟩) _ _ | refine mq_mod.sJ ?_ (Or.inl ⟨by decide, by decide⟩) _ _ | refine mq_mod.sR ?_ (Or.inl ⟨by decide, by decide⟩) _ _)); done)
            | exact Or.inl ⟨trivial, rfl⟩
            | rfl
            | (refine Or.inl ⟨?_, rfl⟩; simp only [lt_i, le_i, eq_i, lit_i] at *; omega)
            | (refine Or.inr ⟨?_, rfl⟩; simp only [lt_i, le_i, eq_i, lit_i] at *; omega)
            | (refine Or.inl ⟨?_, by assumption⟩; simp only [lt_i, le_i, eq_i, lit_i] at *; omega)
            | (refine Or.inr ⟨?_, by assumption⟩; simp only [lt_i, le_i, eq_i, lit_i] at *; omega)
            | assumption
            | (exfalso; simp only [lt_i, le_i, eq_i, lit_i] at *; omega))
      · refine c_within (fun a2 b2 => ?_) (fun a2 => ?_)
        · refine bn_t (by decide) ?_
          refine c_putChange f4 a b hw (fun h1 m1 => ?_)
          refine bn_t (by decide) ?_
          refine c_forgetAll (fun h2 m2 => ?_)
          refine gq_i rfl ?_
          refine hq _ _ (mqM2 (md_w m1) (md_w m2)) ?_
          all_goals (first
              | exact mq_mod.rf _ _ _
              | (repeat (first | exact mq_mod.rf _ _ _ | assumption | refine mq_mod.sI ?_ (Or.inl ⟨by decide, by decide⟩) _ _ | refine mq_mod.sJ ?_ (Or.inl ⟨by decide, by decide⟩) _ _ | refine mq_mod.sR ?_ (Or.inl ⟨by decide, by decide⟩) _ _)); done
              | (refine mqM2 ?_ (md_w (by assumption)); (repeat (first | exact mq_mod.rf _ _ _ | refine mq_mod.sI ?_ (Or.inl ⟨by decide, by decide⟩) _ _ | refine mq_mod.sJ ?_ (Or.inl ⟨by decide, by decide⟩) _ _ | refine mq_mod.sR ?_ (Or.inl ⟨by decide, by decide⟩) _ _)); done)
              | exact Or.inl ⟨trivial, rfl⟩
              | rfl
              | (refine Or.inl ⟨?_, rfl⟩; simp only [lt_i, le_i, eq_i, lit_i] at *; omega)
              | (refine Or.inr ⟨?_, rfl⟩; simp only [lt_i, le_i, eq_i, lit_i] at *; omega)
              | (refine Or.inl ⟨?_, by assumption⟩; simp only [lt_i, le_i, eq_i, lit_i] at *; omega)
              | (refine Or.inr ⟨?_, by assumption⟩; simp only [lt_i, le_i, eq_i, lit_i] at *; omega)
              | assumption
              | (exfalso; simp only [lt_i, le_i, eq_i, lit_i] at *; omega))
        · repeat' (first
              | (refine hq _ _ ?_ ?_)
              | (refine gq_i rfl ?_)
              | (refine gq_i (by apply inb_of; simp only [lt_i, le_i, eq_i, lit_i] at *; omega) ?_)
              | (refine bq_t (by decide) ?_)
              | (refine bq_f (by decide) ?_)
              | (refine bn_t (by decide) ?_)
              | (refine bn_f (by decide) ?_)
              | (refine bq_c (fun c => ?_) (fun c => ?_))
              | (refine bn_c (fun c => ?_) (fun c => ?_)))
          all_goals (first
              | exact mq_mod.rf _ _ _
              | (repeat (first | exact mq_mod.rf _ _ _ | assumption | refine mq_mod.sI ?_ (Or.inl ⟨by decide, by decide⟩) _ _ | refine mq_mod.sJ ?_ (Or.inl ⟨by decide, by decide⟩) _ _ | refine mq_mod.sR ?_ (Or.inl ⟨by decide, by decide⟩) _ _)); done
              | (refine mqM2 ?_ (md_w (by assumption)); (repeat (first | exact mq_mod.rf _ _ _ | refine mq_mod.sI ?_ (Or.inl ⟨by decide, by decide⟩) _ _ | refine mq_mod.sJ ?_ (Or.inl ⟨by decide, by decide⟩) _ _ | refine mq_mod.sR ?_ (Or.inl ⟨by decide, by decide⟩) _ _)); done)
              | exact Or.inl ⟨trivial, rfl⟩
              | rfl
              | (refine Or.inl ⟨?_, rfl⟩; simp only [lt_i, le_i, eq_i, lit_i] at *; omega)
              | (refine Or.inr ⟨?_, rfl⟩; simp only [lt_i, le_i, eq_i, lit_i] at *; omega)
              | (refine Or.inl ⟨?_, by assumption⟩; simp only [lt_i, le_i, eq_i, lit_i] at *; omega)
              | (refine Or.inr ⟨?_, by assumption⟩; simp only [lt_i, le_i, eq_i, lit_i] at *; omega)
              | assumption
              | (exfalso; simp only [lt_i, le_i, eq_i, lit_i] at *; omega))
  · repeat' (first
        | (refine hq _ _ ?_ ?_)
        | (refine gq_i rfl ?_)
        | (refine gq_i (by apply inb_of; simp only [lt_i, le_i, eq_i, lit_i] at *; omega) ?_)
        | (refine bq_t (by decide) ?_)
        | (refine bq_f (by decide) ?_)
        | (refine bn_t (by decide) ?_)
        | (refine bn_f (by decide) ?_)
        | (refine bq_c (fun c => ?_) (fun c => ?_))
        | (refine bn_c (fun c => ?_) (fun c => ?_)))
    all_goals (first
        | exact mq_mod.rf _ _ _
        | (repeat (first | exact mq_mod.rf _ _ _ | assumption | refine mq_mod.sI ?_ (Or.inl ⟨by decide, by decide⟩) _ _ | refine mq_mod.sJ ?_ (Or.inl ⟨by decide, by decide⟩) _ _ | refine mq_mod.sR ?_ (Or.inl ⟨by decide, by decide⟩) _ _)); done
        | (refine mqM2 ?_ (md_w (by assumption)); (repeat (first | exact mq_mod.rf _ _ _ | refine mq_mod.sI ?_ (Or.inl ⟨by decide, by decide⟩) _ _ | refine mq_mod.sJ ?_ (Or.inl ⟨by decide, by decide⟩) _ _ | refine mq_mod.sR ?_ (Or.inl ⟨by decide, by decide⟩) _ _)); done)
        | exact Or.inl ⟨trivial, rfl⟩
        | rfl
        | (refine Or.inl ⟨?_, rfl⟩; simp only [lt_i, le_i, eq_i, lit_i] at *; omega)
        | (refine Or.inr ⟨?_, rfl⟩; simp only [lt_i, le_i, eq_i, lit_i] at *; omega)
        | (refine Or.inl ⟨?_, by assumption⟩; simp only [lt_i, le_i, eq_i, lit_i] at *; omega)
        | (refine Or.inr ⟨?_, by assumption⟩; simp only [lt_i, le_i, eq_i, lit_i] at *; omega)
        | assumption
        | (exfalso; simp only [lt_i, le_i, eq_i, lit_i] at *; omega))
theorem f_claim (F : fr_C h) {x y z u v w : Int32} (hq : ∀ r h', mq_mod 4 59 200 20000 h h' → sp_v ((0 ≤ x.toInt ∧ x.toInt < 6) ∧ (0 ≤ y.toInt ∧ y.toInt < 10) ∧ (0 ≤ z.toInt ∧ z.toInt < 10000) ∧ (0 ≤ u.toInt ∧ u.toInt < 3000) ∧ (0 ≤ v.toInt ∧ v.toInt < 3000) ∧ (0 ≤ w.toInt ∧ w.toInt < 3000) ∧ u.toInt ≤ v.toInt ∧ u.toInt ≤ w.toInt) 0 (-1) r → Q (some (.int r)) h') : mq_Call mq_G (mq_tT lL) 111 [.retAddr 4, .int x, .int y, .int z, .int u, .int v, .int w] h Q := by
  obtain ⟨f1, f2, f3, f4, f5, f6, f7, f8, f9, f10, f11⟩ := F
  have k1 : mq_inb (mq_I h 17 0) 60 = true := by rw [f2]; decide
  apply mq_enter 150 []
  repeat' (first
      | (refine hq _ _ ?_ ?_)
      | (refine gq_i rfl ?_)
      | (refine gq_i (by apply inb_of; simp only [lt_i, le_i, eq_i, lit_i] at *; omega) ?_)
      | (refine bq_t (by decide) ?_)
      | (refine bq_f (by decide) ?_)
      | (refine bn_t (by decide) ?_)
      | (refine bn_f (by decide) ?_)
      | (refine gq_i k1 ?_)
      | (refine gq_i (by rw [k1]; rfl) ?_)
      | (refine bq_t (by rw [f2]; decide) ?_)
      | (refine c_forgetOne (by rw [f2]; decide) (by rw [f2]; decide) (fun h2 m2 => ?_))
      | (refine c_within (fun a2 b2 => ?_) (fun a2 => ?_))
      | (refine bq_c (fun c => ?_) (fun c => ?_))
      | (refine bn_c (fun c => ?_) (fun c => ?_)))

  all_goals (first
      | exact mq_mod.rf _ _ _
      | (repeat (first | exact mq_mod.rf _ _ _ | assumption | refine mq_mod.sI ?_ (Or.inl ⟨by decide, by decide⟩) _ _ | refine mq_mod.sJ ?_ (Or.inl ⟨by decide, by decide⟩) _ _ | refine mq_mod.sR ?_ (Or.inl ⟨by decide, by decide⟩) _ _)); done
      | (refine mqM2 ?_ (md_w (by assumption)); (repeat (first | exact mq_mod.rf _ _ _ | refine mq_mod.sI ?_ (Or.inl ⟨by decide, by decide⟩) _ _ | refine mq_mod.sJ ?_ (Or.inl ⟨by decide, by decide⟩) _ _ | refine mq_mod.sR ?_ (Or.inl ⟨by decide, by decide⟩) _ _)); done)
      | exact Or.inl ⟨trivial, rfl⟩
      | rfl
      | (refine Or.inl ⟨?_, rfl⟩; simp only [lt_i, le_i, eq_i, lit_i] at *; omega)
      | (refine Or.inr ⟨?_, rfl⟩; simp only [lt_i, le_i, eq_i, lit_i] at *; omega)
      | (refine Or.inl ⟨?_, by assumption⟩; simp only [lt_i, le_i, eq_i, lit_i] at *; omega)
      | (refine Or.inr ⟨?_, by assumption⟩; simp only [lt_i, le_i, eq_i, lit_i] at *; omega)
      | assumption
      | (exfalso; simp only [lt_i, le_i, eq_i, lit_i] at *; omega))
theorem f_act (F : fr_C h) {x1 x2 x3 x4 x5 x6 x7 : Int32} (hq : ∀ r h', mq_mod 4 59 200 20000 h h' → sp_b ((0 ≤ x1.toInt ∧ x1.toInt < 6) ∧ x2.toInt = -1) r → Q (some (.int r)) h') : mq_Call mq_G (mq_tT lL) 119 [.retAddr 4, .int x1, .int x2, .int x3, .int x4, .int x5, .int x6, .int x7] h Q := by
  obtain ⟨f1, f2, f3, f4, f5, f6, f7, f8, f9, f10, f11⟩ := F
  apply mq_enter 150 [88]
  repeat' (first
      | (refine hq _ _ ?_ ?_)
      | (refine gq_i rfl ?_)
      | (refine gq_i (by apply inb_of; simp only [lt_i, le_i, eq_i, lit_i] at *; omega) ?_)
      | (refine bq_t (by decide) ?_)
      | (refine bq_f (by decide) ?_)
      | (refine bn_t (by decide) ?_)
      | (refine bn_f (by decide) ?_)
      | (refine c_within (fun a2 b2 => ?_) (fun a2 => ?_))
      | (refine c_isClaim (fun a3 b3 => ?_) (fun a3 => ?_))
      | (apply mq_enter 60 [36])
      | (refine bq_c (fun c => ?_) (fun c => ?_))
      | (refine bn_c (fun c => ?_) (fun c => ?_)))
  all_goals (first
      | exact mq_mod.rf _ _ _
      | (repeat (first | exact mq_mod.rf _ _ _ | assumption | refine mq_mod.sI ?_ (Or.inl ⟨by decide, by decide⟩) _ _ | refine mq_mod.sJ ?_ (Or.inl ⟨by decide, by decide⟩) _ _ | refine mq_mod.sR ?_ (Or.inl ⟨by decide, by decide⟩) _ _)); done
      | (refine mqM2 ?_ (md_w (by assumption)); (repeat (first | exact mq_mod.rf _ _ _ | refine mq_mod.sI ?_ (Or.inl ⟨by decide, by decide⟩) _ _ | refine mq_mod.sJ ?_ (Or.inl ⟨by decide, by decide⟩) _ _ | refine mq_mod.sR ?_ (Or.inl ⟨by decide, by decide⟩) _ _)); done)
      | exact Or.inl ⟨trivial, rfl⟩
      | rfl
      | (refine Or.inl ⟨?_, rfl⟩; simp only [lt_i, le_i, eq_i, lit_i] at *; omega)
      | (refine Or.inr ⟨?_, rfl⟩; simp only [lt_i, le_i, eq_i, lit_i] at *; omega)
      | (refine Or.inl ⟨?_, by assumption⟩; simp only [lt_i, le_i, eq_i, lit_i] at *; omega)
      | (refine Or.inr ⟨?_, by assumption⟩; simp only [lt_i, le_i, eq_i, lit_i] at *; omega)
      | assumption
      | (exfalso; simp only [lt_i, le_i, eq_i, lit_i] at *; omega))
end PC5
