/-! THE REFERENCE on a fresh object: the plan -/
section PM6
variable {lL : Nat} {h : mq_H} {Q : Option Value → mq_H → Prop}
theorem c_canAsk (f1 : mq_I h 59 1 = 0) {x : Int32} (h1 : 0 ≤ x.toInt → x.toInt ≤ 400 → Q (some (.int 1)) h) (h0 : (0 ≤ x.toInt → ¬ x.toInt ≤ 400) → Q (some (.int 0)) h) : mq_Call mq_G (mq_tT lL) 207 [.retAddr 59, .int x] h Q := by
  have e : (mq_I h 59 1 + 400).toInt = 400 := by rw [f1]; decide
  have e0 : (mq_I h 59 1).toInt = 0 := by rw [f1]; decide
  apply mq_enter 60 []
  refine c_isIn (fun a b => ?_) (fun a => ?_)
  · refine gq_i rfl ?_
    exact h1 (by omega) (by omega)
  · refine gq_i rfl ?_
    exact h0 (fun k => by omega)
theorem c_fWanted (f3 : mq_I h 59 9 = 0) {x : Int32} (hq : Q none h) : mq_Call mq_G (mq_tT lL) 208 [.retAddr 59, .int x] h Q := by
  apply mq_enter 60 [10]
  refine bq_t (by rw [f3]; decide) ?_
  exact hq
theorem c_mCost0 (hq : Q (some (.int 0)) h) : mq_Call mq_G (mq_tT lL) 205 [.retAddr 59, .int 0] h Q := by
  apply mq_enter 300 []
  repeat' (first
      | (refine hq _ _ ?_ ?_)
      | (refine gq_i rfl ?_)
      | (refine gq_i (by apply inb_of; simp only [lt_i, le_i, eq_i, lit_i] at *; omega) ?_)
      | (refine bq_t (by decide) ?_)
      | (refine bq_f (by decide) ?_)
      | (refine bn_t (by decide) ?_)
      | (refine bn_f (by decide) ?_)
      | (refine bq_c (fun c => ?_) (fun c => ?_))
      | (refine bn_c (fun c => ?_) (fun c => ?_)))
  exact hq
theorem and1 {k : Nat} (h0 : 0 < k) (h1 : k < 64) : ¬ (nI k &&& ((0 : Int32) ^^^ -1) = 0) := by
  intro e
  rw [show ((0 : Int32) ^^^ -1) = -1 by decide, Int32.and_neg_one] at e
  have := congrArg Int32.toInt e
  rw [nI_toInt (by omega)] at this
  simp at this
  omega
theorem c_mCheap (f3 : mq_I h 59 9 = 0) (f7 : ∀ k, k < 6 → mq_I h 76 k = -1) (hq : Q (some (.int 0)) h) : mq_Call mq_G (mq_tT lL) 206 [.retAddr 59] h Q := by
  have key : ∀ (n k : Nat), 0 < k → k + n = 64 → ∀ u w, mq_At mq_G (mq_tT lL) 206 9 [some (.retAddr 59), some (.int 0), some (.int 0), some (.int (nI k)), u, w] [] h Q := by
    intro n
    induction n with
    | zero =>
      intro k h0 hk u w
      apply mq_go 40 []
      refine bq_t (by rw [show k = 64 by omega]; decide) ?_
      exact hq
    | succ n ih =>
      intro k h0 hk u w
      apply mq_go 40 [9]
      refine bq_f (nI_ge (b := 64) (by omega) (by decide)) ?_
      refine bq_f (and1 h0 (by omega)) ?_
      show mq_At mq_G (mq_tT lL) 206 9 [some (.retAddr 59), some (.int 0), some (.int 0), some (.int (nI k + 1)), u, w] [] h Q
      rw [nI_1]
      exact ih (k + 1) (by omega) (by omega) u w
  apply mq_enter 40 [9]
  refine c_mTold f7 ?_
  show mq_At mq_G (mq_tT lL) 206 9 [some (.retAddr 59), some (.int 0), some (.int (-1)), some (.int 0), none, none] [] h Q
  apply mq_go 90 [9]
  refine bq_f (by decide) ?_
  refine bq_t (by decide) ?_
  refine bq_t (by rw [f3]; decide) ?_
  refine bn_t (by decide) ?_
  refine bq_t (by decide) ?_
  exact key 63 1 (by decide) (by decide) _ _
theorem c_sumBy (f3 : mq_I h 59 9 = 0) {x : Int32} (hq : Q (some (.int 0)) h) : mq_Call mq_G (mq_tT lL) 210 [.retAddr 59, .int x] h Q := by
  apply mq_enter 60 [12]
  refine bq_t (by rw [f3]; decide) ?_
  exact hq
theorem m_cheapest (F : fr_M h) {x y : Int32} (hq : ∀ r h', mq_mod 59 100 0 0 h h' → sp_v ((0 ≤ x.toInt ∧ x.toInt ≤ 400) ∧ 0 ≤ y.toInt ∧ y.toInt ≤ 1) 0 (-1) r → Q (some (.int r)) h') : mq_Call mq_G (mq_tT lL) 209 [.retAddr 59, .int x, .int y] h Q := by
  apply mq_enter 90 [5]
  refine m_told F (P := fun h1 => mq_At mq_G (mq_tT lL) 209 5 [some (.retAddr 59), some (.int x), some (.int y), none] [] h1 Q) (fun h1 F1 m1 => ?_)
  replace hq := fun r h' m s => hq r h' (mq_mod.tr (n1 := 0) (z1 := 0) (n2 := 0) (z2 := 0) m1 m (by decide) (by decide)) s
  clear F m1
  obtain ⟨f1, f2, f3, f4, f5, f6, f7, f8, f9, f10, f11⟩ := F1
  apply mq_go 60 []
  repeat' (first
      | (refine hq _ _ ?_ ?_)
      | (refine gq_i rfl ?_)
      | (refine gq_i (by apply inb_of; simp only [lt_i, le_i, eq_i, lit_i] at *; omega) ?_)
      | (refine bq_t (by decide) ?_)
      | (refine bq_f (by decide) ?_)
      | (refine bn_t (by decide) ?_)
      | (refine bn_f (by decide) ?_)
      | (refine c_canAsk f1 (fun a2 b2 => ?_) (fun a2 => ?_))
      | (refine c_isIn (fun a3 b3 => ?_) (fun a3 => ?_))
      | (refine c_fWanted f3 ?_)
      | (refine c_mCheap f3 f7 ?_)
      | (refine c_mCost0 ?_)
      | (refine bq_c (fun c => ?_) (fun c => ?_))
      | (refine bn_c (fun c => ?_) (fun c => ?_)))
  all_goals (first
      | exact mq_mod.rf _ _ _
      | (repeat (first | exact mq_mod.rf _ _ _ | assumption | refine mq_mod.sI ?_ (Or.inl ⟨by decide, by decide⟩) _ _ | refine mq_mod.sJ ?_ (Or.inl ⟨by decide, by decide⟩) _ _ | refine mq_mod.sR ?_ (Or.inl ⟨by decide, by decide⟩) _ _)); done
      | (refine mqM2 ?_ (md_w (by assumption)); (repeat (first | exact mq_mod.rf _ _ _ | refine mq_mod.sI ?_ (Or.inl ⟨by decide, by decide⟩) _ _ | refine mq_mod.sJ ?_ (Or.inl ⟨by decide, by decide⟩) _ _ | refine mq_mod.sR ?_ (Or.inl ⟨by decide, by decide⟩) _ _)); done)
      | exact Or.inl ⟨trivial, rfl⟩
      | rfl
      | (refine Or.inl ⟨?_, rfl⟩; simp only [lt_i, le_i, eq_i, lit_i] at *; omega)
      | (refine Or.inr ⟨?_, rfl⟩; simp only [lt_i, le_i, eq_i, lit_i] at *; omega)
      | (refine Or.inl ⟨?_, by assumption⟩; simp only [lt_i, le_i, eq_i, lit_i] at *; omega)
      | (refine Or.inr ⟨?_, by assumption⟩; simp only [lt_i, le_i, eq_i, lit_i] at *; omega)
      | assumption
      | (exfalso; simp only [lt_i, le_i, eq_i, lit_i] at *; omega))
theorem m_worth (F : fr_M h) {x y z : Int32} (hq : ∀ r h', mq_mod 59 100 0 0 h h' → sp_v ((0 ≤ x.toInt ∧ x.toInt ≤ 400) ∧ (0 ≤ y.toInt ∧ y.toInt < 10000) ∧ 0 ≤ z.toInt ∧ z.toInt ≤ 2) 0 (-1) r → Q (some (.int r)) h') : mq_Call mq_G (mq_tT lL) 211 [.retAddr 59, .int x, .int y, .int z] h Q := by
  apply mq_enter 90 [5]
  refine m_told F (P := fun h1 => mq_At mq_G (mq_tT lL) 211 5 [some (.retAddr 59), some (.int x), some (.int y), some (.int z), none, none, none, none] [] h1 Q) (fun h1 F1 m1 => ?_)
  replace hq := fun r h' m s => hq r h' (mq_mod.tr (n1 := 0) (z1 := 0) (n2 := 0) (z2 := 0) m1 m (by decide) (by decide)) s
  clear F m1
  obtain ⟨f1, f2, f3, f4, f5, f6, f7, f8, f9, f10, f11⟩ := F1
  have go : ((0 ≤ x.toInt ∧ x.toInt ≤ 400) ∧ (0 ≤ y.toInt ∧ y.toInt < 10000) ∧ 0 ≤ z.toInt ∧ z.toInt ≤ 2) → mq_At mq_G (mq_tT lL) 211 37 [some (.retAddr 59), some (.int x), some (.int y), some (.int z), none, none, none, none] [] h1 Q := by
    intro kk
    have key : ∀ (n k : Nat), 0 < k → k + n = 64 → ∀ w, mq_At mq_G (mq_tT lL) 211 74 [some (.retAddr 59), some (.int x), some (.int y), some (.int z), some (.int 0), some (.int 0), some (.int (nI k)), w] [] h1 Q := by
      intro n
      induction n with
      | zero =>
        intro k h0 hk w
        apply mq_go 60 []
        refine bq_t (by rw [show k = 64 by omega]; decide) ?_
        repeat' (first
            | (refine hq _ _ ?_ ?_)
            | (refine gq_i rfl ?_)
            | (refine gq_i (by apply inb_of; simp only [lt_i, le_i, eq_i, lit_i] at *; omega) ?_)
            | (refine bq_t (by decide) ?_)
            | (refine bq_f (by decide) ?_)
            | (refine bn_t (by decide) ?_)
            | (refine bn_f (by decide) ?_)
            | (refine c_sumBy f3 ?_)
            | (refine c_mCost0 ?_)
            | (refine bq_c (fun c => ?_) (fun c => ?_))
            | (refine bn_c (fun c => ?_) (fun c => ?_)))
        all_goals (first
            | exact mq_mod.rf _ _ _
            | (repeat (first | exact mq_mod.rf _ _ _ | assumption | refine mq_mod.sI ?_ (Or.inl ⟨by decide, by decide⟩) _ _ | refine mq_mod.sJ ?_ (Or.inl ⟨by decide, by decide⟩) _ _ | refine mq_mod.sR ?_ (Or.inl ⟨by decide, by decide⟩) _ _)); done
            | (refine mqM2 ?_ (md_w (by assumption)); (repeat (first | exact mq_mod.rf _ _ _ | refine mq_mod.sI ?_ (Or.inl ⟨by decide, by decide⟩) _ _ | refine mq_mod.sJ ?_ (Or.inl ⟨by decide, by decide⟩) _ _ | refine mq_mod.sR ?_ (Or.inl ⟨by decide, by decide⟩) _ _)); done)
            | exact Or.inl ⟨trivial, rfl⟩
            | rfl
            | (refine Or.inl ⟨?_, rfl⟩; simp only [lt_i, le_i, eq_i, lit_i] at *; omega)
            | (refine Or.inr ⟨?_, rfl⟩; simp only [lt_i, le_i, eq_i, lit_i] at *; omega)
            | (refine Or.inl ⟨?_, by assumption⟩; simp only [lt_i, le_i, eq_i, lit_i] at *; omega)
            | (refine Or.inr ⟨?_, by assumption⟩; simp only [lt_i, le_i, eq_i, lit_i] at *; omega)
            | assumption
            | (exfalso; simp only [lt_i, le_i, eq_i, lit_i] at *; omega))
      | succ n ih =>
        intro k h0 hk w
        apply mq_go 60 [74]
        refine bq_f (nI_ge (b := 64) (by omega) (by decide)) ?_
        refine bn_t (and1 h0 (by omega)) ?_
        show mq_At mq_G (mq_tT lL) 211 74 [some (.retAddr 59), some (.int x), some (.int y), some (.int z), some (.int 0), some (.int 0), some (.int (nI k + 1)), w] [] h1 Q
        rw [nI_1]
        exact ih (k + 1) (by omega) (by omega) w
    apply mq_go 60 [49, 74]
    refine bq_t (by rw [f3]; decide) ?_
    refine c_mTold f7 ?_
    exact key 63 1 (by decide) (by decide) _
  apply mq_go 60 [37]
  repeat' (first
      | (refine hq _ _ ?_ ?_)
      | (refine gq_i rfl ?_)
      | (refine gq_i (by apply inb_of; simp only [lt_i, le_i, eq_i, lit_i] at *; omega) ?_)
      | (refine bq_t (by decide) ?_)
      | (refine bq_f (by decide) ?_)
      | (refine bn_t (by decide) ?_)
      | (refine bn_f (by decide) ?_)
      | (refine c_canAsk f1 (fun a2 b2 => ?_) (fun a2 => ?_))
      | (refine c_isIn (fun a3 b3 => ?_) (fun a3 => ?_))
      | (refine bq_c (fun c => ?_) (fun c => ?_))
      | (refine bn_c (fun c => ?_) (fun c => ?_)))
  all_goals (first | (refine go ?_ <;> (simp only [lt_i, le_i, eq_i, lit_i] at *; omega)) | skip)
  all_goals (first
      | exact mq_mod.rf _ _ _
      | (repeat (first | exact mq_mod.rf _ _ _ | assumption | refine mq_mod.sI ?_ (Or.inl ⟨by decide, by decide⟩) _ _ | refine mq_mod.sJ ?_ (Or.inl ⟨by decide, by decide⟩) _ _ | refine mq_mod.sR ?_ (Or.inl ⟨by decide, by decide⟩) _ _)); done
      | (refine mqM2 ?_ (md_w (by assumption)); (repeat (first | exact mq_mod.rf _ _ _ | refine mq_mod.sI ?_ (Or.inl ⟨by decide, by decide⟩) _ _ | refine mq_mod.sJ ?_ (Or.inl ⟨by decide, by decide⟩) _ _ | refine mq_mod.sR ?_ (Or.inl ⟨by decide, by decide⟩) _ _)); done)
      | exact Or.inl ⟨trivial, rfl⟩
      | rfl
      | (refine Or.inl ⟨?_, rfl⟩; simp only [lt_i, le_i, eq_i, lit_i] at *; omega)
      | (refine Or.inr ⟨?_, rfl⟩; simp only [lt_i, le_i, eq_i, lit_i] at *; omega)
      | (refine Or.inl ⟨?_, by assumption⟩; simp only [lt_i, le_i, eq_i, lit_i] at *; omega)
      | (refine Or.inr ⟨?_, by assumption⟩; simp only [lt_i, le_i, eq_i, lit_i] at *; omega)
      | assumption
      | (exfalso; simp only [lt_i, le_i, eq_i, lit_i] at *; omega))
theorem m_one (F : fr_M h) {x y : Int32} (hq : ∀ r h', mq_mod 59 100 0 0 h h' → sp_v ((0 ≤ x.toInt ∧ x.toInt ≤ 400) ∧ y.toInt = 1) 0 (-1) r → Q (some (.int r)) h') : mq_Call mq_G (mq_tT lL) 213 [.retAddr 59, .int x, .int y] h Q := by
  apply mq_enter 90 [5]
  refine m_told F (P := fun h1 => mq_At mq_G (mq_tT lL) 213 5 [some (.retAddr 59), some (.int x), some (.int y), none, none, none, none] [] h1 Q) (fun h1 F1 m1 => ?_)
  replace hq := fun r h' m s => hq r h' (mq_mod.tr (n1 := 0) (z1 := 0) (n2 := 0) (z2 := 0) m1 m (by decide) (by decide)) s
  clear F m1
  obtain ⟨f1, f2, f3, f4, f5, f6, f7, f8, f9, f10, f11⟩ := F1
  apply mq_go 190 []
  repeat' (first
      | (refine hq _ _ ?_ ?_)
      | (refine gq_i rfl ?_)
      | (refine gq_i (by apply inb_of; simp only [lt_i, le_i, eq_i, lit_i] at *; omega) ?_)
      | (refine bq_t (by decide) ?_)
      | (refine bq_f (by decide) ?_)
      | (refine bn_t (by decide) ?_)
      | (refine bn_f (by decide) ?_)
      | (refine c_canAsk f1 (fun a2 b2 => ?_) (fun a2 => ?_))
      | (refine c_isIn (fun a3 b3 => ?_) (fun a3 => ?_))
      | (refine bq_t (by rw [f3]; decide) ?_)
      | (refine bn_f (f7 _ (by decide)) ?_)
      | (refine bq_c (fun c => ?_) (fun c => ?_))
      | (refine bn_c (fun c => ?_) (fun c => ?_)))
  all_goals (first
      | exact mq_mod.rf _ _ _
      | (repeat (first | exact mq_mod.rf _ _ _ | assumption | refine mq_mod.sI ?_ (Or.inl ⟨by decide, by decide⟩) _ _ | refine mq_mod.sJ ?_ (Or.inl ⟨by decide, by decide⟩) _ _ | refine mq_mod.sR ?_ (Or.inl ⟨by decide, by decide⟩) _ _)); done
      | (refine mqM2 ?_ (md_w (by assumption)); (repeat (first | exact mq_mod.rf _ _ _ | refine mq_mod.sI ?_ (Or.inl ⟨by decide, by decide⟩) _ _ | refine mq_mod.sJ ?_ (Or.inl ⟨by decide, by decide⟩) _ _ | refine mq_mod.sR ?_ (Or.inl ⟨by decide, by decide⟩) _ _)); done)
      | exact Or.inl ⟨trivial, rfl⟩
      | rfl
      | (refine Or.inl ⟨?_, rfl⟩; simp only [lt_i, le_i, eq_i, lit_i] at *; omega)
      | (refine Or.inr ⟨?_, rfl⟩; simp only [lt_i, le_i, eq_i, lit_i] at *; omega)
      | (refine Or.inl ⟨?_, by assumption⟩; simp only [lt_i, le_i, eq_i, lit_i] at *; omega)
      | (refine Or.inr ⟨?_, by assumption⟩; simp only [lt_i, le_i, eq_i, lit_i] at *; omega)
      | assumption
      | (exfalso; simp only [lt_i, le_i, eq_i, lit_i] at *; omega))
end PM6
