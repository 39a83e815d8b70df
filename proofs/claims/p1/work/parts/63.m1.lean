/-! THE REFERENCE on a fresh object: what does not loop -/
def fr_M (h : mq_H) : Prop := mq_I h 59 1 = 0 ∧ mq_I h 59 2 = 0 ∧ mq_I h 59 9 = 0 ∧ mq_I h 59 25 = 0 ∧ (∀ k, k < 6 → mq_I h 62 k = 0) ∧ (∀ k, k < 9 → mq_I h 82 k = 0) ∧ (∀ k, k < 6 → mq_I h 76 k = -1) ∧ mq_I h 59 45 = 0 ∧ mq_I h 59 46 = -1 ∧ mq_I h 59 69 = 0 ∧ mq_N h = mq_N h
section PM1
variable {lL : Nat} {h : mq_H} {Q : Option Value → mq_H → Prop}
/-- told = 0, and on -/
theorem m_told (F : fr_M h) {P : mq_H → Prop} (k : ∀ h1, fr_M h1 → mq_mod 59 100 0 0 h h1 → P h1) : P (mq_setI h 59 0 0) := by
  refine k _ ?_ ((mq_mod.rf 0 0 h).sI (Or.inl ⟨by decide, by decide⟩) _ _)
  exact F
theorem c_isIn {x y z : Int32} (h1 : y.toInt ≤ x.toInt → x.toInt ≤ z.toInt → Q (some (.int 1)) h) (h0 : (y.toInt ≤ x.toInt → ¬ x.toInt ≤ z.toInt) → Q (some (.int 0)) h) : mq_Call mq_G (mq_tT lL) 137 [.retAddr 59, .int x, .int y, .int z] h Q := by
  apply mq_enter 60 []
  refine bq_c (fun c => ?_) (fun c => ?_)
  · refine gq_i rfl ?_
    exact h0 (fun a => by simp only [lt_i, le_i, lit_i] at *; omega)
  · refine bq_c (fun c2 => ?_) (fun c2 => ?_)
    · refine gq_i rfl ?_
      exact h0 (fun a => by simp only [lt_i, le_i, lit_i] at *; omega)
    · refine gq_i rfl ?_
      exact h1 (by simp only [lt_i, le_i, lit_i] at *; omega) (by simp only [lt_i, le_i, lit_i] at *; omega)
theorem c_isPlace {x : Int32} (h1 : 0 ≤ x.toInt → x.toInt < 6 → Q (some (.int 1)) h) (h0 : (0 ≤ x.toInt → ¬ x.toInt < 6) → Q (some (.int 0)) h) : mq_Call mq_G (mq_tT lL) 139 [.retAddr 59, .int x] h Q := by
  apply mq_enter 60 []
  refine bq_c (fun c => ?_) (fun c => ?_)
  · refine gq_i rfl ?_
    exact h0 (fun a => by simp only [lt_i, le_i, lit_i] at *; omega)
  · refine bq_c (fun c2 => ?_) (fun c2 => ?_)
    · refine gq_i rfl ?_
      exact h0 (fun a => by simp only [lt_i, le_i, lit_i] at *; omega)
    · refine gq_i rfl ?_
      exact h1 (by simp only [lt_i, le_i, lit_i] at *; omega) (by simp only [lt_i, le_i, lit_i] at *; omega)
theorem c_isLaw {x : Int32} (h1 : 0 ≤ x.toInt → x.toInt < 8 → Q (some (.int 1)) h) (h0 : (0 ≤ x.toInt → ¬ x.toInt < 8) → Q (some (.int 0)) h) : mq_Call mq_G (mq_tT lL) 140 [.retAddr 59, .int x] h Q := by
  apply mq_enter 60 []
  refine bq_c (fun c => ?_) (fun c => ?_)
  · refine gq_i rfl ?_
    exact h0 (fun a => by simp only [lt_i, le_i, lit_i] at *; omega)
  · refine bq_c (fun c2 => ?_) (fun c2 => ?_)
    · refine gq_i rfl ?_
      exact h0 (fun a => by simp only [lt_i, le_i, lit_i] at *; omega)
    · refine gq_i rfl ?_
      exact h1 (by simp only [lt_i, le_i, lit_i] at *; omega) (by simp only [lt_i, le_i, lit_i] at *; omega)
theorem c_mClaim (e : mq_I h 59 9 = 0) {x : Int32} (h0 : Q (some (.int 0)) h) : mq_Call mq_G (mq_tT lL) 146 [.retAddr 59, .int x] h Q := by
  apply mq_enter 60 []
  refine bq_c (fun c => ?_) (fun c => ?_)
  · refine gq_i rfl ?_
    exact h0
  · refine bq_t ?_ ?_
    · rw [e]
      simp only [lt_i, le_i, lit_i] at *
      omega
    · refine gq_i rfl ?_
      exact h0
theorem m_end (F : fr_M h) {x : Int32} (hq : ∀ r h', mq_mod 59 100 0 0 h h' → sp_b (x.toInt = 0) r → Q (some (.int r)) h') : mq_Call mq_G (mq_tT lL) 156 [.retAddr 59, .int x] h Q := by
  apply mq_enter 90 [5]
  refine m_told F (P := fun h1 => mq_At mq_G (mq_tT lL) 156 5 [some (.retAddr 59), some (.int x)] [] h1 Q) (fun h1 F1 m1 => ?_)
  replace hq := fun r h' m s => hq r h' (mq_mod.tr (n1 := 0) (z1 := 0) (n2 := 0) (z2 := 0) m1 m (by decide) (by decide)) s
  clear F m1
  obtain ⟨f1, f2, f3, f4, f5, f6, f7, f8, f9, f10, f11⟩ := F1
  apply mq_go 90 []
  repeat' (first
      | (refine hq _ _ ?_ ?_)
      | (refine gq_i rfl ?_)
      | (refine gq_i (by apply inb_of; simp only [lt_i, le_i, eq_i, lit_i] at *; omega) ?_)
      | (refine bq_t (by decide) ?_)
      | (refine bq_f (by decide) ?_)
      | (refine bn_t (by decide) ?_)
      | (refine bn_f (by decide) ?_)
      | (refine c_isIn (fun a2 b2 => ?_) (fun a2 => ?_))
      | (refine bq_c (fun c => ?_) (fun c => ?_))
      | (refine bn_c (fun c => ?_) (fun c => ?_)))
  all_goals (first
      | exact mq_mod.rf _ _ _
      | (repeat (first | exact mq_mod.rf _ _ _ | assumption | refine mq_mod.sI ?_ (Or.inl ⟨by decide, by decide⟩) _ _ | refine mq_mod.sJ ?_ (Or.inl ⟨by decide, by decide⟩) _ _ | refine mq_mod.sR ?_ (Or.inl ⟨by decide, by decide⟩) _ _)); done
      | (refine mqM2 ?_ (md_w (by assumption)); (repeat (first | exact mq_mod.rf _ _ _ | refine mq_mod.sI ?_ (Or.inl ⟨by decide, by decide⟩) _ _ | refine mq_mod.sJ ?_ (Or.inl ⟨by decide, by decide⟩) _ _ | refine mq_mod.sR ?_ (Or.inl ⟨by decide, by decide⟩) _ _)); done)
      | exact Or.inl ⟨trivial, rfl⟩
      | rfl
      | (refine Or.inl ⟨?_, rfl⟩; simp only [lt_i, le_i, eq_i, lit_i] at *; omega)
      | (refine Or.inr ⟨?_, rfl⟩; simp only [lt_i, le_i, eq_i, lit_i] at *; omega)
      | (refine Or.inl ⟨?_, by assumption⟩; simp only [lt_i, le_i, eq_i, lit_i] at *; omega)
      | (refine Or.inr ⟨?_, by assumption⟩; simp only [lt_i, le_i, eq_i, lit_i] at *; omega)
      | assumption
      | (exfalso; simp only [lt_i, le_i, eq_i, lit_i] at *; omega))
end PM1
