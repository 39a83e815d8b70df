/-! THE REFERENCE on a fresh object: contest -/
section PM7
variable {lL : Nat} {h : mq_H} {Q : Option Value → mq_H → Prop}
theorem c_fDisp (f3 : mq_I h 59 9 = 0) (hq : Q none (mq_setI h 59 64 0)) : mq_Call mq_G (mq_tT lL) 215 [.retAddr 59] h Q := by
  apply mq_enter 60 [15]
  refine bq_t (by simp [mq_I_setI, f3]) ?_
  exact hq
theorem c_away (e : mq_I h 59 64 = 0) {x y z : Int32} (hq : Q none h) : mq_Call mq_G (mq_tT lL) 216 [.retAddr 59, .int x, .int y, .int z] h Q := by
  apply mq_enter 60 [12]
  refine bq_t (by rw [e]; decide) ?_
  exact hq
theorem c_cWithout (f3 : mq_I h 59 9 = 0) (f7 : ∀ k, k < 6 → mq_I h 76 k = -1) (e : mq_I h 59 64 = 0) {x y : Int32} (hq : Q (some (.int 0)) h) : mq_Call mq_G (mq_tT lL) 217 [.retAddr 59, .int x, .int y] h Q := by
  apply mq_enter 60 []
  refine c_away e ?_
  refine c_mCheap f3 f7 ?_
  refine c_away e ?_
  refine bn_t (by decide) ?_
  refine c_mCost0 ?_
  exact hq
theorem c_fContest (f3 : mq_I h 59 9 = 0) (f7 : ∀ k, k < 6 → mq_I h 76 k = -1) {x y : Int32} (hq : ∀ h', mq_mod 59 100 0 0 h h' → mq_I h' 59 67 = 0 → mq_I h' 59 64 = 0 → Q none h') : mq_Call mq_G (mq_tT lL) 219 [.retAddr 59, .int x, .int y] h Q := by
  apply mq_enter 60 [36]
  refine c_fDisp f3 ?_
  refine c_fWanted (by simp [mq_I_setI, f3]) ?_
  refine c_cWithout (by simp [mq_I_setI, f3]) (fun k hk => ?_) (by simp [mq_I_setI]) ?_
  · simp only [mq_I_setI]
    rw [if_neg (by decide), if_neg (by decide)]
    exact f7 k hk
  refine bq_t (by simp [mq_I_setI]) ?_
  refine hq _ ?_ ?_ ?_
  · exact (((mq_mod.rf 0 0 h).sI (Or.inl ⟨by decide, by decide⟩) _ _).sI (Or.inl ⟨by decide, by decide⟩) _ _).sI (Or.inl ⟨by decide, by decide⟩) _ _
  all_goals simp [mq_I_setI]
theorem m_contest (F : fr_M h) {x y z : Int32} (hq : ∀ r h', mq_mod 59 100 0 0 h h' → sp_v ((0 ≤ x.toInt ∧ x.toInt ≤ 400) ∧ (0 ≤ y.toInt ∧ y.toInt ≤ 2) ∧ z.toInt = 0) 0 (-1) r → Q (some (.int r)) h') : mq_Call mq_G (mq_tT lL) 220 [.retAddr 59, .int x, .int y, .int z] h Q := by
  apply mq_enter 90 [5]
  refine m_told F (P := fun h1 => mq_At mq_G (mq_tT lL) 220 5 [some (.retAddr 59), some (.int x), some (.int y), some (.int z), none, none] [] h1 Q) (fun h1 F1 m1 => ?_)
  replace hq := fun r h' m s => hq r h' (mq_mod.tr (n1 := 0) (z1 := 0) (n2 := 0) (z2 := 0) m1 m (by decide) (by decide)) s
  clear F m1
  obtain ⟨f1, f2, f3, f4, f5, f6, f7, f8, f9, f10, f11⟩ := F1
  have go : (0 ≤ x.toInt ∧ x.toInt ≤ 400) → (0 ≤ y.toInt ∧ y.toInt ≤ 2) → mq_At mq_G (mq_tT lL) 220 35 [some (.retAddr 59), some (.int x), some (.int y), some (.int z), none, none] [] h1 Q := by
    intro k1 k2
    apply mq_go 60 [66]
    refine c_fContest f3 f7 (fun h2 m2 e2 e3 => ?_)
    refine bn_c (fun c => ?_) (fun c => ?_)
    · refine bq_t (by rw [e3]; decide) ?_
      refine hq _ _ m2 (Or.inr ⟨?_, rfl⟩)
      simp only [lt_i, le_i, eq_i, lit_i] at *
      omega
    · refine hq _ _ m2 (Or.inl ⟨?_, e2⟩)
      simp only [lt_i, le_i, eq_i, lit_i] at *
      omega
  apply mq_go 60 [35]
  repeat' (first
      | (refine hq _ _ ?_ ?_)
      | (refine gq_i rfl ?_)
      | (refine gq_i (by apply inb_of; simp only [lt_i, le_i, eq_i, lit_i] at *; omega) ?_)
      | (refine bq_t (by decide) ?_)
      | (refine bq_f (by decide) ?_)
      | (refine bn_t (by decide) ?_)
      | (refine bn_f (by decide) ?_)
      | (refine c_canAsk f1 (fun a2 b2 => ?_) (fun a2 => ?_))
      | (refine c_isIn (fun a3 b3 => ?_) (fun a3 => ?_))
      | (refine bq_c (fun c => ?_) (fun c => ?_))
      | (refine bn_c (fun c => ?_) (fun c => ?_)))
  all_goals (first | (refine go ?_ ?_ <;> (simp only [lt_i, le_i, eq_i, lit_i] at *; omega)) | skip)
  all_goals (first
      | exact mq_mod.rf _ _ _
      | (repeat (first | exact mq_mod.rf _ _ _ | assumption | refine mq_mod.sI ?_ (Or.inl ⟨by decide, by decide⟩) _ _ | refine mq_mod.sJ ?_ (Or.inl ⟨by decide, by decide⟩) _ _ | refine mq_mod.sR ?_ (Or.inl ⟨by decide, by decide⟩) _ _)); done
      | (refine mqM2 ?_ (md_w (by assumption)); (repeat (first | exact mq_mod.rf _ _ _ | refine mq_mod.sI ?_ (Or.inl ⟨by decide, by decide⟩) _ _ | refine mq_mod.sJ ?_ (Or.inl ⟨by decide, by decide⟩) _ _ | refine mq_mod.sR ?_ (Or.inl ⟨by decide, by decide⟩) _ _)); done)
      | exact Or.inl ⟨trivial, rfl⟩
      | rfl
      | (refine Or.inl ⟨?_, rfl⟩; simp only [lt_i, le_i, eq_i, lit_i] at *; omega)
      | (refine Or.inr ⟨?_, rfl⟩; simp only [lt_i, le_i, eq_i, lit_i] at *; omega)
      | (refine Or.inl ⟨?_, by assumption⟩; simp only [lt_i, le_i, eq_i, lit_i] at *; omega)
      | (refine Or.inr ⟨?_, by assumption⟩; simp only [lt_i, le_i, eq_i, lit_i] at *; omega)
      | assumption
      | (exfalso; simp only [lt_i, le_i, eq_i, lit_i] at *; omega))
end PM7
