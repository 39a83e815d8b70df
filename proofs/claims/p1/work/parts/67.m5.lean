/-! THE REFERENCE on a fresh object: text -/
section PM5
variable {lL : Nat} {h : mq_H} {Q : Option Value → mq_H → Prop}
theorem c_raw0 (e1 : mq_I h 59 25 = 0) {x : Int32} (e2 : x = 0) (hq : Q (some (.int (-1))) h) : mq_Call mq_G (mq_tT lL) 157 [.retAddr 59, .int x] h Q := by
  apply mq_enter 60 [8]
  refine bq_t (by rw [e1, e2]; decide) ?_
  exact hq
theorem c_reads0 (e1 : mq_I h 59 25 = 0) (e2 : mq_I h 59 26 = 0) (hq : ∀ h', mq_mod 59 100 0 0 h h' → mq_I h' 59 28 = 0 → mq_I h' 59 39 = mq_I h 59 39 → Q none h') : mq_Call mq_G (mq_tT lL) 162 [.retAddr 59] h Q := by
  apply mq_enter 90 [26, 72]
  refine c_raw0 e1 e2 ?_
  refine bq_f (by decide) ?_
  refine c_raw0 e1 e2 ?_
  refine bn_t (by decide) ?_
  refine c_raw0 (by simp [mq_I_setI, e1]) (by simp [mq_I_setI, e2]) ?_
  refine bn_f (by decide) ?_
  refine hq _ ?_ ?_ ?_
  · exact (((mq_mod.rf 0 0 h).sI (Or.inl ⟨by decide, by decide⟩) _ _).sI (Or.inl ⟨by decide, by decide⟩) _ _).sI (Or.inl ⟨by decide, by decide⟩) _ _
  all_goals simp [mq_I_setI]
theorem c_readText0 (e1 : mq_I h 59 28 = 0) (hq : Q (some (.int 0)) h) : mq_Call mq_G (mq_tT lL) 176 [.retAddr 59] h Q := by
  apply mq_enter 60 [10]
  refine bn_t (by rw [e1]; decide) ?_
  refine bn_f e1 ?_
  exact hq
theorem m_text (F : fr_M h) {x : Int32} (hq : ∀ r h', mq_mod 59 100 0 0 h h' → sp_v (0 ≤ x.toInt ∧ x.toInt < 8) 0 (-1) r → Q (some (.int r)) h') : mq_Call mq_G (mq_tT lL) 177 [.retAddr 59, .int x] h Q := by
  apply mq_enter 90 [5]
  refine m_told F (P := fun h1 => mq_At mq_G (mq_tT lL) 177 5 [some (.retAddr 59), some (.int x), none, none, none] [] h1 Q) (fun h1 F1 m1 => ?_)
  replace hq := fun r h' m s => hq r h' (mq_mod.tr (n1 := 0) (z1 := 0) (n2 := 0) (z2 := 0) m1 m (by decide) (by decide)) s
  clear F m1
  obtain ⟨f1, f2, f3, f4, f5, f6, f7, f8, f9, f10, f11⟩ := F1
  apply mq_go 90 [99, 232]
  refine c_isLaw (fun a b => ?_) (fun a => ?_)
  · refine c_reads0 (by simp [mq_I_setI, f4]) (by simp [mq_I_setI]) (fun h2 m2 e2 e3 => ?_)
    refine bq_f (by decide) ?_
    refine c_readText0 e2 ?_
    refine bq_f (by decide) ?_
    refine bn_t (by decide) ?_
    refine bn_t (by decide) ?_
    refine bq_t (by decide) ?_
    refine bq_t (by simp [mq_I_setI, e3]) ?_
    refine gq_i (inb_of ⟨a, by omega⟩) ?_
    refine hq _ _ ?_ (Or.inl ⟨⟨a, b⟩, rfl⟩)
    refine mq_mod.sI ?_ (Or.inl ⟨by decide, by decide⟩) _ _
    refine mq_mod.sI ?_ (Or.inl ⟨by decide, by decide⟩) _ _
    refine mr2 ?_ m2
    all_goals (first
        | exact mq_mod.rf _ _ _
        | (repeat (first | exact mq_mod.rf _ _ _ | assumption | refine mq_mod.sI ?_ (Or.inl ⟨by decide, by decide⟩) _ _ | refine mq_mod.sJ ?_ (Or.inl ⟨by decide, by decide⟩) _ _ | refine mq_mod.sR ?_ (Or.inl ⟨by decide, by decide⟩) _ _)); done
        | (refine mqM2 ?_ (md_w (by assumption)); (repeat (first | exact mq_mod.rf _ _ _ | refine mq_mod.sI ?_ (Or.inl ⟨by decide, by decide⟩) _ _ | refine mq_mod.sJ ?_ (Or.inl ⟨by decide, by decide⟩) _ _ | refine mq_mod.sR ?_ (Or.inl ⟨by decide, by decide⟩) _ _)); done)
        | exact Or.inl ⟨trivial, rfl⟩
        | rfl
        | (refine Or.inl ⟨?_, rfl⟩; simp only [lt_i, le_i, eq_i, lit_i] at *; omega)
        | (refine Or.inr ⟨?_, rfl⟩; simp only [lt_i, le_i, eq_i, lit_i] at *; omega)
        | (refine Or.inl ⟨?_, by assumption⟩; simp only [lt_i, le_i, eq_i, lit_i] at *; omega)
        | (refine Or.inr ⟨?_, by assumption⟩; simp only [lt_i, le_i, eq_i, lit_i] at *; omega)
        | assumption
        | (exfalso; simp only [lt_i, le_i, eq_i, lit_i] at *; omega))
  · refine c_reads0 (by simp [mq_I_setI, f4]) (by simp [mq_I_setI]) (fun h2 m2 e2 e3 => ?_)
    refine bq_t (by decide) ?_
    refine bq_t (by decide) ?_
    refine bn_f (by decide) ?_
    refine hq _ _ ?_ (Or.inr ⟨fun k => a k.1 k.2, rfl⟩)
    refine mq_mod.sI ?_ (Or.inl ⟨by decide, by decide⟩) _ _
    refine mr2 ?_ m2
    all_goals (first
        | exact mq_mod.rf _ _ _
        | (repeat (first | exact mq_mod.rf _ _ _ | assumption | refine mq_mod.sI ?_ (Or.inl ⟨by decide, by decide⟩) _ _ | refine mq_mod.sJ ?_ (Or.inl ⟨by decide, by decide⟩) _ _ | refine mq_mod.sR ?_ (Or.inl ⟨by decide, by decide⟩) _ _)); done
        | (refine mqM2 ?_ (md_w (by assumption)); (repeat (first | exact mq_mod.rf _ _ _ | refine mq_mod.sI ?_ (Or.inl ⟨by decide, by decide⟩) _ _ | refine mq_mod.sJ ?_ (Or.inl ⟨by decide, by decide⟩) _ _ | refine mq_mod.sR ?_ (Or.inl ⟨by decide, by decide⟩) _ _)); done)
        | exact Or.inl ⟨trivial, rfl⟩
        | rfl
        | (refine Or.inl ⟨?_, rfl⟩; simp only [lt_i, le_i, eq_i, lit_i] at *; omega)
        | (refine Or.inr ⟨?_, rfl⟩; simp only [lt_i, le_i, eq_i, lit_i] at *; omega)
        | (refine Or.inl ⟨?_, by assumption⟩; simp only [lt_i, le_i, eq_i, lit_i] at *; omega)
        | (refine Or.inr ⟨?_, by assumption⟩; simp only [lt_i, le_i, eq_i, lit_i] at *; omega)
        | assumption
        | (exfalso; simp only [lt_i, le_i, eq_i, lit_i] at *; omega))
end PM5
