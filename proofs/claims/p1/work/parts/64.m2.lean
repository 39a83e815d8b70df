/-! THE REFERENCE on a fresh object: more -/
section PM2
variable {lL : Nat} {h : mq_H} {Q : Option Value → mq_H → Prop}
theorem m_fault (F : fr_M h) {x : Int32} (hq : ∀ r h', mq_mod 59 100 0 0 h h' → sp_v (x.toInt = 0) 0 (-1) r → Q (some (.int r)) h') : mq_Call mq_G (mq_tT lL) 178 [.retAddr 59, .int x] h Q := by
  apply mq_enter 90 [5]
  refine m_told F (P := fun h1 => mq_At mq_G (mq_tT lL) 178 5 [some (.retAddr 59), some (.int x)] [] h1 Q) (fun h1 F1 m1 => ?_)
  replace hq := fun r h' m s => hq r h' (mq_mod.tr (n1 := 0) (z1 := 0) (n2 := 0) (z2 := 0) m1 m (by decide) (by decide)) s
  clear F m1
  obtain ⟨f1, f2, f3, f4, f5, f6, f7, f8, f9, f10, f11⟩ := F1
  apply mq_go 90 []
  repeat' (first
      | (refine hq _ _ ?_ ?_)
      | (refine gq_i rfl ?_)
      | (refine gq_i (by apply inb_of; simp only [lt_i, le_i, eq_i, lit_i] at *; omega) ?_)
      | (refine bq_t (by decide) ?_)
      | (refine bq_f (by decide) ?_)
      | (refine bn_t (by decide) ?_)
      | (refine bn_f (by decide) ?_)
      | (refine bq_c (fun c => ?_) (fun c => ?_))
      | (refine bn_c (fun c => ?_) (fun c => ?_)))
  all_goals (first
      | exact mq_mod.rf _ _ _
      | (repeat (first | exact mq_mod.rf _ _ _ | assumption | refine mq_mod.sI ?_ (Or.inl ⟨by decide, by decide⟩) _ _ | refine mq_mod.sJ ?_ (Or.inl ⟨by decide, by decide⟩) _ _ | refine mq_mod.sR ?_ (Or.inl ⟨by decide, by decide⟩) _ _)); done
      | (refine mqM2 ?_ (md_w (by assumption)); (repeat (first | exact mq_mod.rf _ _ _ | refine mq_mod.sI ?_ (Or.inl ⟨by decide, by decide⟩) _ _ | refine mq_mod.sJ ?_ (Or.inl ⟨by decide, by decide⟩) _ _ | refine mq_mod.sR ?_ (Or.inl ⟨by decide, by decide⟩) _ _)); done)
      | exact Or.inl ⟨trivial, rfl⟩
      | rfl
      | (refine Or.inl ⟨?_, rfl⟩; simp only [lt_i, le_i, eq_i, lit_i] at *; omega)
      | (refine Or.inr ⟨?_, rfl⟩; simp only [lt_i, le_i, eq_i, lit_i] at *; omega)
      | (refine Or.inl ⟨?_, by assumption⟩; simp only [lt_i, le_i, eq_i, lit_i] at *; omega)
      | (refine Or.inr ⟨?_, by assumption⟩; simp only [lt_i, le_i, eq_i, lit_i] at *; omega)
      | assumption
      | (exfalso; simp only [lt_i, le_i, eq_i, lit_i] at *; omega))
theorem m_want (F : fr_M h) {x y : Int32} (hq : ∀ r h', mq_mod 59 100 0 0 h h' → r = 0 → Q (some (.int r)) h') : mq_Call mq_G (mq_tT lL) 151 [.retAddr 59, .int x, .int y] h Q := by
  apply mq_enter 90 [5]
  refine m_told F (P := fun h1 => mq_At mq_G (mq_tT lL) 151 5 [some (.retAddr 59), some (.int x), some (.int y)] [] h1 Q) (fun h1 F1 m1 => ?_)
  replace hq := fun r h' m s => hq r h' (mq_mod.tr (n1 := 0) (z1 := 0) (n2 := 0) (z2 := 0) m1 m (by decide) (by decide)) s
  clear F m1
  obtain ⟨f1, f2, f3, f4, f5, f6, f7, f8, f9, f10, f11⟩ := F1
  apply mq_go 90 []
  refine c_mClaim f3 ?_
  repeat' (first
      | (refine hq _ _ ?_ ?_)
      | (refine gq_i rfl ?_)
      | (refine gq_i (by apply inb_of; simp only [lt_i, le_i, eq_i, lit_i] at *; omega) ?_)
      | (refine bq_t (by decide) ?_)
      | (refine bq_f (by decide) ?_)
      | (refine bn_t (by decide) ?_)
      | (refine bn_f (by decide) ?_)
      | (refine bq_c (fun c => ?_) (fun c => ?_))
      | (refine bn_c (fun c => ?_) (fun c => ?_)))
  all_goals (first
      | exact mq_mod.rf _ _ _
      | (repeat (first | exact mq_mod.rf _ _ _ | assumption | refine mq_mod.sI ?_ (Or.inl ⟨by decide, by decide⟩) _ _ | refine mq_mod.sJ ?_ (Or.inl ⟨by decide, by decide⟩) _ _ | refine mq_mod.sR ?_ (Or.inl ⟨by decide, by decide⟩) _ _)); done
      | (refine mqM2 ?_ (md_w (by assumption)); (repeat (first | exact mq_mod.rf _ _ _ | refine mq_mod.sI ?_ (Or.inl ⟨by decide, by decide⟩) _ _ | refine mq_mod.sJ ?_ (Or.inl ⟨by decide, by decide⟩) _ _ | refine mq_mod.sR ?_ (Or.inl ⟨by decide, by decide⟩) _ _)); done)
      | exact Or.inl ⟨trivial, rfl⟩
      | rfl
      | (refine Or.inl ⟨?_, rfl⟩; simp only [lt_i, le_i, eq_i, lit_i] at *; omega)
      | (refine Or.inr ⟨?_, rfl⟩; simp only [lt_i, le_i, eq_i, lit_i] at *; omega)
      | (refine Or.inl ⟨?_, by assumption⟩; simp only [lt_i, le_i, eq_i, lit_i] at *; omega)
      | (refine Or.inr ⟨?_, by assumption⟩; simp only [lt_i, le_i, eq_i, lit_i] at *; omega)
      | assumption
      | (exfalso; simp only [lt_i, le_i, eq_i, lit_i] at *; omega))
theorem m_last (F : fr_M h) {x : Int32} (hq : ∀ r h', mq_mod 59 100 0 0 h h' → r = -3 → Q (some (.int r)) h') : mq_Call mq_G (mq_tT lL) 194 [.retAddr 59, .int x] h Q := by
  apply mq_enter 90 [5]
  refine m_told F (P := fun h1 => mq_At mq_G (mq_tT lL) 194 5 [some (.retAddr 59), some (.int x)] [] h1 Q) (fun h1 F1 m1 => ?_)
  replace hq := fun r h' m s => hq r h' (mq_mod.tr (n1 := 0) (z1 := 0) (n2 := 0) (z2 := 0) m1 m (by decide) (by decide)) s
  clear F m1
  obtain ⟨f1, f2, f3, f4, f5, f6, f7, f8, f9, f10, f11⟩ := F1
  apply mq_go 90 []
  refine c_mClaim f3 ?_
  repeat' (first
      | (refine hq _ _ ?_ ?_)
      | (refine gq_i rfl ?_)
      | (refine gq_i (by apply inb_of; simp only [lt_i, le_i, eq_i, lit_i] at *; omega) ?_)
      | (refine bq_t (by decide) ?_)
      | (refine bq_f (by decide) ?_)
      | (refine bn_t (by decide) ?_)
      | (refine bn_f (by decide) ?_)
      | (refine bq_c (fun c => ?_) (fun c => ?_))
      | (refine bn_c (fun c => ?_) (fun c => ?_)))
  all_goals (first
      | exact mq_mod.rf _ _ _
      | (repeat (first | exact mq_mod.rf _ _ _ | assumption | refine mq_mod.sI ?_ (Or.inl ⟨by decide, by decide⟩) _ _ | refine mq_mod.sJ ?_ (Or.inl ⟨by decide, by decide⟩) _ _ | refine mq_mod.sR ?_ (Or.inl ⟨by decide, by decide⟩) _ _)); done
      | (refine mqM2 ?_ (md_w (by assumption)); (repeat (first | exact mq_mod.rf _ _ _ | refine mq_mod.sI ?_ (Or.inl ⟨by decide, by decide⟩) _ _ | refine mq_mod.sJ ?_ (Or.inl ⟨by decide, by decide⟩) _ _ | refine mq_mod.sR ?_ (Or.inl ⟨by decide, by decide⟩) _ _)); done)
      | exact Or.inl ⟨trivial, rfl⟩
      | rfl
      | (refine Or.inl ⟨?_, rfl⟩; simp only [lt_i, le_i, eq_i, lit_i] at *; omega)
      | (refine Or.inr ⟨?_, rfl⟩; simp only [lt_i, le_i, eq_i, lit_i] at *; omega)
      | (refine Or.inl ⟨?_, by assumption⟩; simp only [lt_i, le_i, eq_i, lit_i] at *; omega)
      | (refine Or.inr ⟨?_, by assumption⟩; simp only [lt_i, le_i, eq_i, lit_i] at *; omega)
      | assumption
      | (exfalso; simp only [lt_i, le_i, eq_i, lit_i] at *; omega))
theorem m_fact (F : fr_M h) {x y z w : Int32} (hq : ∀ r h', mq_mod 59 100 0 0 h h' → r = -1 → Q (some (.int r)) h') : mq_Call mq_G (mq_tT lL) 148 [.retAddr 59, .int x, .int y, .int z, .int w] h Q := by
  apply mq_enter 90 [5]
  refine m_told F (P := fun h1 => mq_At mq_G (mq_tT lL) 148 5 [some (.retAddr 59), some (.int x), some (.int y), some (.int z), some (.int w), none] [] h1 Q) (fun h1 F1 m1 => ?_)
  replace hq := fun r h' m s => hq r h' (mq_mod.tr (n1 := 0) (z1 := 0) (n2 := 0) (z2 := 0) m1 m (by decide) (by decide)) s
  clear F m1
  obtain ⟨f1, f2, f3, f4, f5, f6, f7, f8, f9, f10, f11⟩ := F1
  apply mq_go 90 []
  refine c_mClaim f3 ?_
  repeat' (first
      | (refine hq _ _ ?_ ?_)
      | (refine gq_i rfl ?_)
      | (refine gq_i (by apply inb_of; simp only [lt_i, le_i, eq_i, lit_i] at *; omega) ?_)
      | (refine bq_t (by decide) ?_)
      | (refine bq_f (by decide) ?_)
      | (refine bn_t (by decide) ?_)
      | (refine bn_f (by decide) ?_)
      | (refine bq_c (fun c => ?_) (fun c => ?_))
      | (refine bn_c (fun c => ?_) (fun c => ?_)))
  all_goals (first
      | exact mq_mod.rf _ _ _
      | (repeat (first | exact mq_mod.rf _ _ _ | assumption | refine mq_mod.sI ?_ (Or.inl ⟨by decide, by decide⟩) _ _ | refine mq_mod.sJ ?_ (Or.inl ⟨by decide, by decide⟩) _ _ | refine mq_mod.sR ?_ (Or.inl ⟨by decide, by decide⟩) _ _)); done
      | (refine mqM2 ?_ (md_w (by assumption)); (repeat (first | exact mq_mod.rf _ _ _ | refine mq_mod.sI ?_ (Or.inl ⟨by decide, by decide⟩) _ _ | refine mq_mod.sJ ?_ (Or.inl ⟨by decide, by decide⟩) _ _ | refine mq_mod.sR ?_ (Or.inl ⟨by decide, by decide⟩) _ _)); done)
      | exact Or.inl ⟨trivial, rfl⟩
      | rfl
      | (refine Or.inl ⟨?_, rfl⟩; simp only [lt_i, le_i, eq_i, lit_i] at *; omega)
      | (refine Or.inr ⟨?_, rfl⟩; simp only [lt_i, le_i, eq_i, lit_i] at *; omega)
      | (refine Or.inl ⟨?_, by assumption⟩; simp only [lt_i, le_i, eq_i, lit_i] at *; omega)
      | (refine Or.inr ⟨?_, by assumption⟩; simp only [lt_i, le_i, eq_i, lit_i] at *; omega)
      | assumption
      | (exfalso; simp only [lt_i, le_i, eq_i, lit_i] at *; omega))
theorem m_doubt (F : fr_M h) {x y z : Int32} (hq : ∀ r h', mq_mod 59 100 0 0 h h' → r = 0 → Q (some (.int r)) h') : mq_Call mq_G (mq_tT lL) 150 [.retAddr 59, .int x, .int y, .int z] h Q := by
  apply mq_enter 90 [5]
  refine m_told F (P := fun h1 => mq_At mq_G (mq_tT lL) 150 5 [some (.retAddr 59), some (.int x), some (.int y), some (.int z), none, none] [] h1 Q) (fun h1 F1 m1 => ?_)
  replace hq := fun r h' m s => hq r h' (mq_mod.tr (n1 := 0) (z1 := 0) (n2 := 0) (z2 := 0) m1 m (by decide) (by decide)) s
  clear F m1
  obtain ⟨f1, f2, f3, f4, f5, f6, f7, f8, f9, f10, f11⟩ := F1
  apply mq_go 90 []
  refine c_mClaim f3 ?_
  repeat' (first
      | (refine hq _ _ ?_ ?_)
      | (refine gq_i rfl ?_)
      | (refine gq_i (by apply inb_of; simp only [lt_i, le_i, eq_i, lit_i] at *; omega) ?_)
      | (refine bq_t (by decide) ?_)
      | (refine bq_f (by decide) ?_)
      | (refine bn_t (by decide) ?_)
      | (refine bn_f (by decide) ?_)
      | (refine bq_c (fun c => ?_) (fun c => ?_))
      | (refine bn_c (fun c => ?_) (fun c => ?_)))
  all_goals (first
      | exact mq_mod.rf _ _ _
      | (repeat (first | exact mq_mod.rf _ _ _ | assumption | refine mq_mod.sI ?_ (Or.inl ⟨by decide, by decide⟩) _ _ | refine mq_mod.sJ ?_ (Or.inl ⟨by decide, by decide⟩) _ _ | refine mq_mod.sR ?_ (Or.inl ⟨by decide, by decide⟩) _ _)); done
      | (refine mqM2 ?_ (md_w (by assumption)); (repeat (first | exact mq_mod.rf _ _ _ | refine mq_mod.sI ?_ (Or.inl ⟨by decide, by decide⟩) _ _ | refine mq_mod.sJ ?_ (Or.inl ⟨by decide, by decide⟩) _ _ | refine mq_mod.sR ?_ (Or.inl ⟨by decide, by decide⟩) _ _)); done)
      | exact Or.inl ⟨trivial, rfl⟩
      | rfl
      | (refine Or.inl ⟨?_, rfl⟩; simp only [lt_i, le_i, eq_i, lit_i] at *; omega)
      | (refine Or.inr ⟨?_, rfl⟩; simp only [lt_i, le_i, eq_i, lit_i] at *; omega)
      | (refine Or.inl ⟨?_, by assumption⟩; simp only [lt_i, le_i, eq_i, lit_i] at *; omega)
      | (refine Or.inr ⟨?_, by assumption⟩; simp only [lt_i, le_i, eq_i, lit_i] at *; omega)
      | assumption
      | (exfalso; simp only [lt_i, le_i, eq_i, lit_i] at *; omega))
theorem m_step (F : fr_M h) {x y z : Int32} (hq : ∀ r h', mq_mod 59 100 0 0 h h' → r = -10 → Q (some (.int r)) h') : mq_Call mq_G (mq_tT lL) 196 [.retAddr 59, .int x, .int y, .int z] h Q := by
  apply mq_enter 90 [5]
  refine m_told F (P := fun h1 => mq_At mq_G (mq_tT lL) 196 5 [some (.retAddr 59), some (.int x), some (.int y), some (.int z), none] [] h1 Q) (fun h1 F1 m1 => ?_)
  replace hq := fun r h' m s => hq r h' (mq_mod.tr (n1 := 0) (z1 := 0) (n2 := 0) (z2 := 0) m1 m (by decide) (by decide)) s
  clear F m1
  obtain ⟨f1, f2, f3, f4, f5, f6, f7, f8, f9, f10, f11⟩ := F1
  apply mq_go 90 []
  refine c_mClaim f3 ?_
  repeat' (first
      | (refine hq _ _ ?_ ?_)
      | (refine gq_i rfl ?_)
      | (refine gq_i (by apply inb_of; simp only [lt_i, le_i, eq_i, lit_i] at *; omega) ?_)
      | (refine bq_t (by decide) ?_)
      | (refine bq_f (by decide) ?_)
      | (refine bn_t (by decide) ?_)
      | (refine bn_f (by decide) ?_)
      | (refine bq_c (fun c => ?_) (fun c => ?_))
      | (refine bn_c (fun c => ?_) (fun c => ?_)))
  all_goals (first
      | exact mq_mod.rf _ _ _
      | (repeat (first | exact mq_mod.rf _ _ _ | assumption | refine mq_mod.sI ?_ (Or.inl ⟨by decide, by decide⟩) _ _ | refine mq_mod.sJ ?_ (Or.inl ⟨by decide, by decide⟩) _ _ | refine mq_mod.sR ?_ (Or.inl ⟨by decide, by decide⟩) _ _)); done
      | (refine mqM2 ?_ (md_w (by assumption)); (repeat (first | exact mq_mod.rf _ _ _ | refine mq_mod.sI ?_ (Or.inl ⟨by decide, by decide⟩) _ _ | refine mq_mod.sJ ?_ (Or.inl ⟨by decide, by decide⟩) _ _ | refine mq_mod.sR ?_ (Or.inl ⟨by decide, by decide⟩) _ _)); done)
      | exact Or.inl ⟨trivial, rfl⟩
      | rfl
      | (refine Or.inl ⟨?_, rfl⟩; simp only [lt_i, le_i, eq_i, lit_i] at *; omega)
      | (refine Or.inr ⟨?_, rfl⟩; simp only [lt_i, le_i, eq_i, lit_i] at *; omega)
      | (refine Or.inl ⟨?_, by assumption⟩; simp only [lt_i, le_i, eq_i, lit_i] at *; omega)
      | (refine Or.inr ⟨?_, by assumption⟩; simp only [lt_i, le_i, eq_i, lit_i] at *; omega)
      | assumption
      | (exfalso; simp only [lt_i, le_i, eq_i, lit_i] at *; omega))
theorem m_span (F : fr_M h) {x y : Int32} (hq : ∀ r h', mq_mod 59 100 0 0 h h' → r = -10 → Q (some (.int r)) h') : mq_Call mq_G (mq_tT lL) 199 [.retAddr 59, .int x, .int y] h Q := by
  apply mq_enter 90 [5]
  refine m_told F (P := fun h1 => mq_At mq_G (mq_tT lL) 199 5 [some (.retAddr 59), some (.int x), some (.int y)] [] h1 Q) (fun h1 F1 m1 => ?_)
  replace hq := fun r h' m s => hq r h' (mq_mod.tr (n1 := 0) (z1 := 0) (n2 := 0) (z2 := 0) m1 m (by decide) (by decide)) s
  clear F m1
  obtain ⟨f1, f2, f3, f4, f5, f6, f7, f8, f9, f10, f11⟩ := F1
  apply mq_go 90 []
  refine c_mClaim f3 ?_
  repeat' (first
      | (refine hq _ _ ?_ ?_)
      | (refine gq_i rfl ?_)
      | (refine gq_i (by apply inb_of; simp only [lt_i, le_i, eq_i, lit_i] at *; omega) ?_)
      | (refine bq_t (by decide) ?_)
      | (refine bq_f (by decide) ?_)
      | (refine bn_t (by decide) ?_)
      | (refine bn_f (by decide) ?_)
      | (refine bq_c (fun c => ?_) (fun c => ?_))
      | (refine bn_c (fun c => ?_) (fun c => ?_)))
  all_goals (first
      | exact mq_mod.rf _ _ _
      | (repeat (first | exact mq_mod.rf _ _ _ | assumption | refine mq_mod.sI ?_ (Or.inl ⟨by decide, by decide⟩) _ _ | refine mq_mod.sJ ?_ (Or.inl ⟨by decide, by decide⟩) _ _ | refine mq_mod.sR ?_ (Or.inl ⟨by decide, by decide⟩) _ _)); done
      | (refine mqM2 ?_ (md_w (by assumption)); (repeat (first | exact mq_mod.rf _ _ _ | refine mq_mod.sI ?_ (Or.inl ⟨by decide, by decide⟩) _ _ | refine mq_mod.sJ ?_ (Or.inl ⟨by decide, by decide⟩) _ _ | refine mq_mod.sR ?_ (Or.inl ⟨by decide, by decide⟩) _ _)); done)
      | exact Or.inl ⟨trivial, rfl⟩
      | rfl
      | (refine Or.inl ⟨?_, rfl⟩; simp only [lt_i, le_i, eq_i, lit_i] at *; omega)
      | (refine Or.inr ⟨?_, rfl⟩; simp only [lt_i, le_i, eq_i, lit_i] at *; omega)
      | (refine Or.inl ⟨?_, by assumption⟩; simp only [lt_i, le_i, eq_i, lit_i] at *; omega)
      | (refine Or.inr ⟨?_, by assumption⟩; simp only [lt_i, le_i, eq_i, lit_i] at *; omega)
      | assumption
      | (exfalso; simp only [lt_i, le_i, eq_i, lit_i] at *; omega))
theorem m_pay (F : fr_M h) {x : Int32} (hq : ∀ r h', mq_mod 59 100 0 0 h h' → r = -100000 → Q (some (.int r)) h') : mq_Call mq_G (mq_tT lL) 214 [.retAddr 59, .int x] h Q := by
  apply mq_enter 90 [5]
  refine m_told F (P := fun h1 => mq_At mq_G (mq_tT lL) 214 5 [some (.retAddr 59), some (.int x), none, none] [] h1 Q) (fun h1 F1 m1 => ?_)
  replace hq := fun r h' m s => hq r h' (mq_mod.tr (n1 := 0) (z1 := 0) (n2 := 0) (z2 := 0) m1 m (by decide) (by decide)) s
  clear F m1
  obtain ⟨f1, f2, f3, f4, f5, f6, f7, f8, f9, f10, f11⟩ := F1
  apply mq_go 90 []
  refine c_mClaim f3 ?_
  repeat' (first
      | (refine hq _ _ ?_ ?_)
      | (refine gq_i rfl ?_)
      | (refine gq_i (by apply inb_of; simp only [lt_i, le_i, eq_i, lit_i] at *; omega) ?_)
      | (refine bq_t (by decide) ?_)
      | (refine bq_f (by decide) ?_)
      | (refine bn_t (by decide) ?_)
      | (refine bn_f (by decide) ?_)
      | (refine bq_c (fun c => ?_) (fun c => ?_))
      | (refine bn_c (fun c => ?_) (fun c => ?_)))
  all_goals (first
      | exact mq_mod.rf _ _ _
      | (repeat (first | exact mq_mod.rf _ _ _ | assumption | refine mq_mod.sI ?_ (Or.inl ⟨by decide, by decide⟩) _ _ | refine mq_mod.sJ ?_ (Or.inl ⟨by decide, by decide⟩) _ _ | refine mq_mod.sR ?_ (Or.inl ⟨by decide, by decide⟩) _ _)); done
      | (refine mqM2 ?_ (md_w (by assumption)); (repeat (first | exact mq_mod.rf _ _ _ | refine mq_mod.sI ?_ (Or.inl ⟨by decide, by decide⟩) _ _ | refine mq_mod.sJ ?_ (Or.inl ⟨by decide, by decide⟩) _ _ | refine mq_mod.sR ?_ (Or.inl ⟨by decide, by decide⟩) _ _)); done)
      | exact Or.inl ⟨trivial, rfl⟩
      | rfl
      | (refine Or.inl ⟨?_, rfl⟩; simp only [lt_i, le_i, eq_i, lit_i] at *; omega)
      | (refine Or.inr ⟨?_, rfl⟩; simp only [lt_i, le_i, eq_i, lit_i] at *; omega)
      | (refine Or.inl ⟨?_, by assumption⟩; simp only [lt_i, le_i, eq_i, lit_i] at *; omega)
      | (refine Or.inr ⟨?_, by assumption⟩; simp only [lt_i, le_i, eq_i, lit_i] at *; omega)
      | assumption
      | (exfalso; simp only [lt_i, le_i, eq_i, lit_i] at *; omega))
theorem m_changed (F : fr_M h) {x y : Int32} (hq : ∀ r h', mq_mod 59 100 0 0 h h' → r = -1 → Q (some (.int r)) h') : mq_Call mq_G (mq_tT lL) 200 [.retAddr 59, .int x, .int y] h Q := by
  apply mq_enter 90 [5]
  refine m_told F (P := fun h1 => mq_At mq_G (mq_tT lL) 200 5 [some (.retAddr 59), some (.int x), some (.int y), none, none, none, none, none] [] h1 Q) (fun h1 F1 m1 => ?_)
  replace hq := fun r h' m s => hq r h' (mq_mod.tr (n1 := 0) (z1 := 0) (n2 := 0) (z2 := 0) m1 m (by decide) (by decide)) s
  clear F m1
  obtain ⟨f1, f2, f3, f4, f5, f6, f7, f8, f9, f10, f11⟩ := F1
  apply mq_go 90 [22]
  refine c_isPlace (fun a b => ?_) (fun a => ?_)
  · repeat' (first
        | (refine hq _ _ ?_ ?_)
        | (refine gq_i rfl ?_)
        | (refine gq_i (by apply inb_of; simp only [lt_i, le_i, eq_i, lit_i] at *; omega) ?_)
        | (refine bq_t (by decide) ?_)
        | (refine bq_f (by decide) ?_)
        | (refine bn_t (by decide) ?_)
        | (refine bn_f (by decide) ?_)
        | (refine gq_i (inb_of ⟨a, b⟩) ?_)
        | (refine bq_t (f5 _ (cl_lt a b)) ?_)
        | (refine bq_c (fun c => ?_) (fun c => ?_))
        | (refine bn_c (fun c => ?_) (fun c => ?_)))
    all_goals (first
        | exact mq_mod.rf _ _ _
        | (repeat (first | exact mq_mod.rf _ _ _ | assumption | refine mq_mod.sI ?_ (Or.inl ⟨by decide, by decide⟩) _ _ | refine mq_mod.sJ ?_ (Or.inl ⟨by decide, by decide⟩) _ _ | refine mq_mod.sR ?_ (Or.inl ⟨by decide, by decide⟩) _ _)); done
        | (refine mqM2 ?_ (md_w (by assumption)); (repeat (first | exact mq_mod.rf _ _ _ | refine mq_mod.sI ?_ (Or.inl ⟨by decide, by decide⟩) _ _ | refine mq_mod.sJ ?_ (Or.inl ⟨by decide, by decide⟩) _ _ | refine mq_mod.sR ?_ (Or.inl ⟨by decide, by decide⟩) _ _)); done)
        | exact Or.inl ⟨trivial, rfl⟩
        | rfl
        | (refine Or.inl ⟨?_, rfl⟩; simp only [lt_i, le_i, eq_i, lit_i] at *; omega)
        | (refine Or.inr ⟨?_, rfl⟩; simp only [lt_i, le_i, eq_i, lit_i] at *; omega)
        | (refine Or.inl ⟨?_, by assumption⟩; simp only [lt_i, le_i, eq_i, lit_i] at *; omega)
        | (refine Or.inr ⟨?_, by assumption⟩; simp only [lt_i, le_i, eq_i, lit_i] at *; omega)
        | assumption
        | (exfalso; simp only [lt_i, le_i, eq_i, lit_i] at *; omega))
  · repeat' (first
        | (refine hq _ _ ?_ ?_)
        | (refine gq_i rfl ?_)
        | (refine gq_i (by apply inb_of; simp only [lt_i, le_i, eq_i, lit_i] at *; omega) ?_)
        | (refine bq_t (by decide) ?_)
        | (refine bq_f (by decide) ?_)
        | (refine bn_t (by decide) ?_)
        | (refine bn_f (by decide) ?_)
        | (refine bq_c (fun c => ?_) (fun c => ?_))
        | (refine bn_c (fun c => ?_) (fun c => ?_)))
    all_goals (first
        | exact mq_mod.rf _ _ _
        | (repeat (first | exact mq_mod.rf _ _ _ | assumption | refine mq_mod.sI ?_ (Or.inl ⟨by decide, by decide⟩) _ _ | refine mq_mod.sJ ?_ (Or.inl ⟨by decide, by decide⟩) _ _ | refine mq_mod.sR ?_ (Or.inl ⟨by decide, by decide⟩) _ _)); done
        | (refine mqM2 ?_ (md_w (by assumption)); (repeat (first | exact mq_mod.rf _ _ _ | refine mq_mod.sI ?_ (Or.inl ⟨by decide, by decide⟩) _ _ | refine mq_mod.sJ ?_ (Or.inl ⟨by decide, by decide⟩) _ _ | refine mq_mod.sR ?_ (Or.inl ⟨by decide, by decide⟩) _ _)); done)
        | exact Or.inl ⟨trivial, rfl⟩
        | rfl
        | (refine Or.inl ⟨?_, rfl⟩; simp only [lt_i, le_i, eq_i, lit_i] at *; omega)
        | (refine Or.inr ⟨?_, rfl⟩; simp only [lt_i, le_i, eq_i, lit_i] at *; omega)
        | (refine Or.inl ⟨?_, by assumption⟩; simp only [lt_i, le_i, eq_i, lit_i] at *; omega)
        | (refine Or.inr ⟨?_, by assumption⟩; simp only [lt_i, le_i, eq_i, lit_i] at *; omega)
        | assumption
        | (exfalso; simp only [lt_i, le_i, eq_i, lit_i] at *; omega))
theorem m_place (F : fr_M h) {x y : Int32} (hq : ∀ r h', mq_mod 59 100 0 0 h h' → sp_b ((0 ≤ x.toInt ∧ x.toInt < 6) ∧ 0 ≤ y.toInt ∧ y.toInt < 8) r → Q (some (.int r)) h') : mq_Call mq_G (mq_tT lL) 144 [.retAddr 59, .int x, .int y] h Q := by
  apply mq_enter 90 [5]
  refine m_told F (P := fun h1 => mq_At mq_G (mq_tT lL) 144 5 [some (.retAddr 59), some (.int x), some (.int y)] [] h1 Q) (fun h1 F1 m1 => ?_)
  replace hq := fun r h' m s => hq r h' (mq_mod.tr (n1 := 0) (z1 := 0) (n2 := 0) (z2 := 0) m1 m (by decide) (by decide)) s
  clear F m1
  obtain ⟨f1, f2, f3, f4, f5, f6, f7, f8, f9, f10, f11⟩ := F1
  apply mq_go 90 []
  repeat' (first
      | (refine hq _ _ ?_ ?_)
      | (refine gq_i rfl ?_)
      | (refine gq_i (by apply inb_of; simp only [lt_i, le_i, eq_i, lit_i] at *; omega) ?_)
      | (refine bq_t (by decide) ?_)
      | (refine bq_f (by decide) ?_)
      | (refine bn_t (by decide) ?_)
      | (refine bn_f (by decide) ?_)
      | (refine c_isPlace (fun a2 b2 => ?_) (fun a2 => ?_))
      | (refine c_isLaw (fun a3 b3 => ?_) (fun a3 => ?_))
      | (refine bq_c (fun c => ?_) (fun c => ?_))
      | (refine bn_c (fun c => ?_) (fun c => ?_)))
  all_goals (first
      | exact mq_mod.rf _ _ _
      | (repeat (first | exact mq_mod.rf _ _ _ | assumption | refine mq_mod.sI ?_ (Or.inl ⟨by decide, by decide⟩) _ _ | refine mq_mod.sJ ?_ (Or.inl ⟨by decide, by decide⟩) _ _ | refine mq_mod.sR ?_ (Or.inl ⟨by decide, by decide⟩) _ _)); done
      | (refine mqM2 ?_ (md_w (by assumption)); (repeat (first | exact mq_mod.rf _ _ _ | refine mq_mod.sI ?_ (Or.inl ⟨by decide, by decide⟩) _ _ | refine mq_mod.sJ ?_ (Or.inl ⟨by decide, by decide⟩) _ _ | refine mq_mod.sR ?_ (Or.inl ⟨by decide, by decide⟩) _ _)); done)
      | exact Or.inl ⟨trivial, rfl⟩
      | rfl
      | (refine Or.inl ⟨?_, rfl⟩; simp only [lt_i, le_i, eq_i, lit_i] at *; omega)
      | (refine Or.inr ⟨?_, rfl⟩; simp only [lt_i, le_i, eq_i, lit_i] at *; omega)
      | (refine Or.inl ⟨?_, by assumption⟩; simp only [lt_i, le_i, eq_i, lit_i] at *; omega)
      | (refine Or.inr ⟨?_, by assumption⟩; simp only [lt_i, le_i, eq_i, lit_i] at *; omega)
      | assumption
      | (exfalso; simp only [lt_i, le_i, eq_i, lit_i] at *; omega))
theorem m_beside (F : fr_M h) {x y z : Int32} (hq : ∀ r h', mq_mod 59 100 0 0 h h' → sp_v ((0 ≤ x.toInt ∧ x.toInt < 8) ∧ (0 ≤ y.toInt ∧ y.toInt < 8) ∧ 0 ≤ z.toInt ∧ z.toInt ≤ 1) 0 (-1) r → Q (some (.int r)) h') : mq_Call mq_G (mq_tT lL) 222 [.retAddr 59, .int x, .int y, .int z] h Q := by
  apply mq_enter 90 [5]
  refine m_told F (P := fun h1 => mq_At mq_G (mq_tT lL) 222 5 [some (.retAddr 59), some (.int x), some (.int y), some (.int z), none, none, none, none] [] h1 Q) (fun h1 F1 m1 => ?_)
  replace hq := fun r h' m s => hq r h' (mq_mod.tr (n1 := 0) (z1 := 0) (n2 := 0) (z2 := 0) m1 m (by decide) (by decide)) s
  clear F m1
  obtain ⟨f1, f2, f3, f4, f5, f6, f7, f8, f9, f10, f11⟩ := F1
  apply mq_go 90 [48]
  repeat' (first
      | (refine hq _ _ ?_ ?_)
      | (refine gq_i rfl ?_)
      | (refine gq_i (by apply inb_of; simp only [lt_i, le_i, eq_i, lit_i] at *; omega) ?_)
      | (refine bq_t (by decide) ?_)
      | (refine bq_f (by decide) ?_)
      | (refine bn_t (by decide) ?_)
      | (refine bn_f (by decide) ?_)
      | (refine bq_t (by rw [f3]; decide) ?_)
      | (refine c_isIn (fun a2 b2 => ?_) (fun a2 => ?_))
      | (refine c_isLaw (fun a3 b3 => ?_) (fun a3 => ?_))
      | (refine bq_c (fun c => ?_) (fun c => ?_))
      | (refine bn_c (fun c => ?_) (fun c => ?_)))
  all_goals (first
      | exact mq_mod.rf _ _ _
      | (repeat (first | exact mq_mod.rf _ _ _ | assumption | refine mq_mod.sI ?_ (Or.inl ⟨by decide, by decide⟩) _ _ | refine mq_mod.sJ ?_ (Or.inl ⟨by decide, by decide⟩) _ _ | refine mq_mod.sR ?_ (Or.inl ⟨by decide, by decide⟩) _ _)); done
      | (refine mqM2 ?_ (md_w (by assumption)); (repeat (first | exact mq_mod.rf _ _ _ | refine mq_mod.sI ?_ (Or.inl ⟨by decide, by decide⟩) _ _ | refine mq_mod.sJ ?_ (Or.inl ⟨by decide, by decide⟩) _ _ | refine mq_mod.sR ?_ (Or.inl ⟨by decide, by decide⟩) _ _)); done)
      | exact Or.inl ⟨trivial, rfl⟩
      | rfl
      | (refine Or.inl ⟨?_, rfl⟩; simp only [lt_i, le_i, eq_i, lit_i] at *; omega)
      | (refine Or.inr ⟨?_, rfl⟩; simp only [lt_i, le_i, eq_i, lit_i] at *; omega)
      | (refine Or.inl ⟨?_, by assumption⟩; simp only [lt_i, le_i, eq_i, lit_i] at *; omega)
      | (refine Or.inr ⟨?_, by assumption⟩; simp only [lt_i, le_i, eq_i, lit_i] at *; omega)
      | assumption
      | (exfalso; simp only [lt_i, le_i, eq_i, lit_i] at *; omega))
theorem m_act (F : fr_M h) {x1 x2 x3 x4 x5 x6 x7 : Int32} (hq : ∀ r h', mq_mod 59 100 0 0 h h' → sp_b ((0 ≤ x1.toInt ∧ x1.toInt < 6) ∧ x2.toInt = -1) r → Q (some (.int r)) h') : mq_Call mq_G (mq_tT lL) 153 [.retAddr 59, .int x1, .int x2, .int x3, .int x4, .int x5, .int x6, .int x7] h Q := by
  apply mq_enter 90 [5]
  refine m_told F (P := fun h1 => mq_At mq_G (mq_tT lL) 153 5 [some (.retAddr 59), some (.int x1), some (.int x2), some (.int x3), some (.int x4), some (.int x5), some (.int x6), some (.int x7)] [] h1 Q) (fun h1 F1 m1 => ?_)
  replace hq := fun r h' m s => hq r h' (mq_mod.tr (n1 := 0) (z1 := 0) (n2 := 0) (z2 := 0) m1 m (by decide) (by decide)) s
  clear F m1
  obtain ⟨f1, f2, f3, f4, f5, f6, f7, f8, f9, f10, f11⟩ := F1
  apply mq_go 90 []
  repeat' (first
      | (refine hq _ _ ?_ ?_)
      | (refine gq_i rfl ?_)
      | (refine gq_i (by apply inb_of; simp only [lt_i, le_i, eq_i, lit_i] at *; omega) ?_)
      | (refine bq_t (by decide) ?_)
      | (refine bq_f (by decide) ?_)
      | (refine bn_t (by decide) ?_)
      | (refine bn_f (by decide) ?_)
      | (refine c_mClaim f3 ?_)
      | (refine c_isIn (fun a2 b2 => ?_) (fun a2 => ?_))
      | (refine bq_c (fun c => ?_) (fun c => ?_))
      | (refine bn_c (fun c => ?_) (fun c => ?_)))
  all_goals (first
      | exact mq_mod.rf _ _ _
      | (repeat (first | exact mq_mod.rf _ _ _ | assumption | refine mq_mod.sI ?_ (Or.inl ⟨by decide, by decide⟩) _ _ | refine mq_mod.sJ ?_ (Or.inl ⟨by decide, by decide⟩) _ _ | refine mq_mod.sR ?_ (Or.inl ⟨by decide, by decide⟩) _ _)); done
      | (refine mqM2 ?_ (md_w (by assumption)); (repeat (first | exact mq_mod.rf _ _ _ | refine mq_mod.sI ?_ (Or.inl ⟨by decide, by decide⟩) _ _ | refine mq_mod.sJ ?_ (Or.inl ⟨by decide, by decide⟩) _ _ | refine mq_mod.sR ?_ (Or.inl ⟨by decide, by decide⟩) _ _)); done)
      | exact Or.inl ⟨trivial, rfl⟩
      | rfl
      | (refine Or.inl ⟨?_, rfl⟩; simp only [lt_i, le_i, eq_i, lit_i] at *; omega)
      | (refine Or.inr ⟨?_, rfl⟩; simp only [lt_i, le_i, eq_i, lit_i] at *; omega)
      | (refine Or.inl ⟨?_, by assumption⟩; simp only [lt_i, le_i, eq_i, lit_i] at *; omega)
      | (refine Or.inr ⟨?_, by assumption⟩; simp only [lt_i, le_i, eq_i, lit_i] at *; omega)
      | assumption
      | (exfalso; simp only [lt_i, le_i, eq_i, lit_i] at *; omega))
theorem m_holiday (F : fr_M h) {x : Int32} (hq : ∀ r h', mq_mod 59 100 0 0 h h' → sp_b (0 ≤ x.toInt ∧ x.toInt < 5000) r → Q (some (.int r)) h') : mq_Call mq_G (mq_tT lL) 142 [.retAddr 59, .int x] h Q := by
  apply mq_enter 90 [5]
  refine m_told F (P := fun h1 => mq_At mq_G (mq_tT lL) 142 5 [some (.retAddr 59), some (.int x), none] [] h1 Q) (fun h1 F1 m1 => ?_)
  replace hq := fun r h' m s => hq r h' (mq_mod.tr (n1 := 0) (z1 := 0) (n2 := 0) (z2 := 0) m1 m (by decide) (by decide)) s
  clear F m1
  obtain ⟨f1, f2, f3, f4, f5, f6, f7, f8, f9, f10, f11⟩ := F1
  apply mq_go 90 [29]
  repeat' (first
      | (refine hq _ _ ?_ ?_)
      | (refine gq_i rfl ?_)
      | (refine gq_i (by apply inb_of; simp only [lt_i, le_i, eq_i, lit_i] at *; omega) ?_)
      | (refine bq_t (by decide) ?_)
      | (refine bq_f (by decide) ?_)
      | (refine bn_t (by decide) ?_)
      | (refine bn_f (by decide) ?_)
      | (refine bq_t (by rw [f2]; decide) ?_)
      | (refine bn_t (by rw [f2]; decide) ?_)
      | (refine gq_i (by rw [f2]; decide) ?_)
      | (refine c_isIn (fun a2 b2 => ?_) (fun a2 => ?_))
      | (refine bq_c (fun c => ?_) (fun c => ?_))
      | (refine bn_c (fun c => ?_) (fun c => ?_)))
  all_goals (first
      | exact mq_mod.rf _ _ _
      | (repeat (first | exact mq_mod.rf _ _ _ | assumption | refine mq_mod.sI ?_ (Or.inl ⟨by decide, by decide⟩) _ _ | refine mq_mod.sJ ?_ (Or.inl ⟨by decide, by decide⟩) _ _ | refine mq_mod.sR ?_ (Or.inl ⟨by decide, by decide⟩) _ _)); done
      | (refine mqM2 ?_ (md_w (by assumption)); (repeat (first | exact mq_mod.rf _ _ _ | refine mq_mod.sI ?_ (Or.inl ⟨by decide, by decide⟩) _ _ | refine mq_mod.sJ ?_ (Or.inl ⟨by decide, by decide⟩) _ _ | refine mq_mod.sR ?_ (Or.inl ⟨by decide, by decide⟩) _ _)); done)
      | exact Or.inl ⟨trivial, rfl⟩
      | rfl
      | (refine Or.inl ⟨?_, rfl⟩; simp only [lt_i, le_i, eq_i, lit_i] at *; omega)
      | (refine Or.inr ⟨?_, rfl⟩; simp only [lt_i, le_i, eq_i, lit_i] at *; omega)
      | (refine Or.inl ⟨?_, by assumption⟩; simp only [lt_i, le_i, eq_i, lit_i] at *; omega)
      | (refine Or.inr ⟨?_, by assumption⟩; simp only [lt_i, le_i, eq_i, lit_i] at *; omega)
      | assumption
      | (exfalso; simp only [lt_i, le_i, eq_i, lit_i] at *; omega))
theorem m_today (F : fr_M h) {x : Int32} (hq : ∀ r h', mq_mod 59 100 0 0 h h' → sp_b (0 ≤ x.toInt ∧ x.toInt < 3000) r → Q (some (.int r)) h') : mq_Call mq_G (mq_tT lL) 141 [.retAddr 59, .int x] h Q := by
  apply mq_enter 90 [5]
  refine m_told F (P := fun h1 => mq_At mq_G (mq_tT lL) 141 5 [some (.retAddr 59), some (.int x), none] [] h1 Q) (fun h1 F1 m1 => ?_)
  replace hq := fun r h' m s => hq r h' (mq_mod.tr (n1 := 0) (z1 := 0) (n2 := 0) (z2 := 0) m1 m (by decide) (by decide)) s
  clear F m1
  obtain ⟨f1, f2, f3, f4, f5, f6, f7, f8, f9, f10, f11⟩ := F1
  have e1 : (mq_I h1 59 1).toInt = 0 := by rw [f1]; decide
  apply mq_go 190 []
  repeat' (first
      | (refine hq _ _ ?_ ?_)
      | (refine gq_i rfl ?_)
      | (refine gq_i (by apply inb_of; simp only [lt_i, le_i, eq_i, lit_i] at *; omega) ?_)
      | (refine bq_t (by decide) ?_)
      | (refine bq_f (by decide) ?_)
      | (refine bn_t (by decide) ?_)
      | (refine bn_f (by decide) ?_)
      | (refine bq_t (f7 _ (by decide)) ?_)
      | (refine c_isIn (fun a2 b2 => ?_) (fun a2 => ?_))
      | (refine bq_c (fun c => ?_) (fun c => ?_))
      | (refine bn_c (fun c => ?_) (fun c => ?_)))
  all_goals (first
      | exact mq_mod.rf _ _ _
      | (repeat (first | exact mq_mod.rf _ _ _ | assumption | refine mq_mod.sI ?_ (Or.inl ⟨by decide, by decide⟩) _ _ | refine mq_mod.sJ ?_ (Or.inl ⟨by decide, by decide⟩) _ _ | refine mq_mod.sR ?_ (Or.inl ⟨by decide, by decide⟩) _ _)); done
      | (refine mqM2 ?_ (md_w (by assumption)); (repeat (first | exact mq_mod.rf _ _ _ | refine mq_mod.sI ?_ (Or.inl ⟨by decide, by decide⟩) _ _ | refine mq_mod.sJ ?_ (Or.inl ⟨by decide, by decide⟩) _ _ | refine mq_mod.sR ?_ (Or.inl ⟨by decide, by decide⟩) _ _)); done)
      | exact Or.inl ⟨trivial, rfl⟩
      | rfl
      | (refine Or.inl ⟨?_, rfl⟩; simp only [lt_i, le_i, eq_i, lit_i] at *; omega)
      | (refine Or.inr ⟨?_, rfl⟩; simp only [lt_i, le_i, eq_i, lit_i] at *; omega)
      | (refine Or.inl ⟨?_, by assumption⟩; simp only [lt_i, le_i, eq_i, lit_i] at *; omega)
      | (refine Or.inr ⟨?_, by assumption⟩; simp only [lt_i, le_i, eq_i, lit_i] at *; omega)
      | assumption
      | (exfalso; simp only [lt_i, le_i, eq_i, lit_i] at *; omega))
end PM2
