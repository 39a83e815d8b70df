/-! THE CLASS on a fresh object: calls that write -/
section PC4
variable {lL : Nat} {h : mq_H} {Q : Option Value → mq_H → Prop}
theorem md_w {a b n z : Nat} {h h' : mq_H} (m : mq_mod a b n z h h') (h1 : 4 ≤ a := by decide) (h2 : b ≤ 59 := by decide) (h3 : n ≤ 100 := by decide) (h4 : z ≤ 10000 := by decide) : mq_mod 4 59 100 10000 h h' := m.wd h1 h2 h3 h4
theorem md_2 {h h1 h2 : mq_H} (a : mq_mod 4 59 100 10000 h h1) (b : mq_mod 4 59 100 10000 h1 h2) : mq_mod 4 59 200 20000 h h2 := a.tr b (by decide) (by decide)
theorem f_today (F : fr_C h) {x : Int32} (hq : ∀ r h', mq_mod 4 59 200 20000 h h' → sp_b (0 ≤ x.toInt ∧ x.toInt < 3000) r → Q (some (.int r)) h') : mq_Call mq_G (mq_tT lL) 103 [.retAddr 4, .int x] h Q := by
  obtain ⟨f1, f2, f3, f4, f5, f6, f7, f8, f9, f10, f11⟩ := F
  apply mq_enter 90 []
  refine bq_c (fun c => ?_) (fun c => ?_)
  · @AUTO
    all_goals (first
        | exact mq_mod.rf _ _ _
        | (repeat (first | exact mq_mod.rf _ _ _ | assumption | refine mq_mod.sI ?_ (Or.inl ⟨by decide, by decide⟩) _ _ | refine mq_mod.sJ ?_ (Or.inl ⟨by decide, by decide⟩) _ _ | refine mq_mod.sR ?_ (Or.inl ⟨by decide, by decide⟩) _ _)); done
        | exact Or.inl ⟨trivial, rfl⟩
        | rfl
        | (refine Or.inl ⟨?_, rfl⟩; simp only [lt_i, le_i, eq_i, lit_i] at *; omega)
        | (refine Or.inr ⟨?_, rfl⟩; simp only [lt_i, le_i, eq_i, lit_i] at *; omega)
        | (refine Or.inl ⟨?_, by assumption⟩; simp only [lt_i, le_i, eq_i, lit_i] at *; omega)
        | (refine Or.inr ⟨?_, by assumption⟩; simp only [lt_i, le_i, eq_i, lit_i] at *; omega)
        | assumption
        | (exfalso; simp only [lt_i, le_i, eq_i, lit_i] at *; omega))
  · refine bq_c (fun c2 => ?_) (fun c2 => ?_)
    · refine c_drop (fun h' m => ?_)
      refine gq_i rfl ?_
      refine hq _ _ (md_2 (h1 := mq_setI h 5 0 x) ((mq_mod.rf _ _ h).sI (Or.inl ⟨by decide, by decide⟩) _ _) (md_w m)) (Or.inl ⟨?_, rfl⟩)
      simp only [lt_i, le_i, eq_i, lit_i] at *
      omega
    · @AUTO
      all_goals (first
          | exact mq_mod.rf _ _ _
          | (repeat (first | exact mq_mod.rf _ _ _ | assumption | refine mq_mod.sI ?_ (Or.inl ⟨by decide, by decide⟩) _ _ | refine mq_mod.sJ ?_ (Or.inl ⟨by decide, by decide⟩) _ _ | refine mq_mod.sR ?_ (Or.inl ⟨by decide, by decide⟩) _ _)); done
          | exact Or.inl ⟨trivial, rfl⟩
          | rfl
          | (refine Or.inl ⟨?_, rfl⟩; simp only [lt_i, le_i, eq_i, lit_i] at *; omega)
          | (refine Or.inr ⟨?_, rfl⟩; simp only [lt_i, le_i, eq_i, lit_i] at *; omega)
          | (refine Or.inl ⟨?_, by assumption⟩; simp only [lt_i, le_i, eq_i, lit_i] at *; omega)
          | (refine Or.inr ⟨?_, by assumption⟩; simp only [lt_i, le_i, eq_i, lit_i] at *; omega)
          | assumption
          | (exfalso; simp only [lt_i, le_i, eq_i, lit_i] at *; omega))
end PC4
