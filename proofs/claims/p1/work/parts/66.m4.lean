/-! THE REFERENCE on a fresh object: look, text -/
section PM4
variable {lL : Nat} {h : mq_H} {Q : Option Value → mq_H → Prop}
theorem m_look (F : fr_M h) {x : Int32} (hq : ∀ r h', mq_mod 59 100 0 0 h h' → sp_v ((0 ≤ x.toInt ∧ x.toInt ≤ 7) ∨ (10 ≤ x.toInt ∧ x.toInt < 18) ∨ (20 ≤ x.toInt ∧ x.toInt < 26)) 0 (-1) r → Q (some (.int r)) h') : mq_Call mq_G (mq_tT lL) 228 [.retAddr 59, .int x] h Q := by
  apply mq_enter 90 [5]
  refine m_told F (P := fun h1 => mq_At mq_G (mq_tT lL) 228 5 [some (.retAddr 59), some (.int x), none, none] [] h1 Q) (fun h1 F1 m1 => ?_)
  replace hq := fun r h' m s => hq r h' (mq_mod.tr (n1 := 0) (z1 := 0) (n2 := 0) (z2 := 0) m1 m (by decide) (by decide)) s
  clear F m1
  obtain ⟨f1, f2, f3, f4, f5, f6, f7, f8, f9, f10, f11⟩ := F1
  have l10 : (10 : Int32).toInt = 10 := by decide
  have l17 : (17 : Int32).toInt = 17 := by decide
  have l20 : (20 : Int32).toInt = 20 := by decide
  have e29 : ((29 : Int32) + mq_I h1 59 9).toInt = 29 := by rw [f3]; decide
  have low : ¬ x = 0 → ¬ x = 1 → ¬ x = 2 → ¬ x = 3 → ¬ x = 4 → mq_At mq_G (mq_tT lL) 228 59 [some (.retAddr 59), some (.int x), none, none] [] h1 Q := by
    intro c0 c1 c2 c3 c4
    have lo2 : (10 ≤ x.toInt → ¬ x.toInt ≤ 17) → (20 ≤ x.toInt → ¬ x.toInt ≤ 25) → mq_At mq_G (mq_tT lL) 228 103 [some (.retAddr 59), some (.int x), none, none] [] h1 Q := by
      intro d1 d2
      apply mq_go 90 [120, 170]
      refine c_isIn (fun a b => ?_) (fun a => ?_)
      · exfalso
        rw [e29] at b
        simp only [lit_i] at a
        omega
      · refine bq_t (by decide) ?_
        refine bn_c (fun c => ?_) (fun c => ?_)
        · refine bq_c (fun c' => ?_) (fun c' => ?_)
          · refine bq_t (by rw [f3]; decide) ?_
            refine hq _ _ (mq_mod.rf _ _ _) (Or.inl ⟨?_, rfl⟩)
            simp only [lt_i, le_i, eq_i, lit_i] at *
            omega
          · refine bq_c (fun c2' => ?_) (fun c2' => ?_)
            · refine bq_t (by rw [f3]; decide) ?_
              refine hq _ _ (mq_mod.rf _ _ _) (Or.inl ⟨?_, rfl⟩)
              simp only [lt_i, le_i, eq_i, lit_i] at *
              omega
            · refine hq _ _ (mq_mod.rf _ _ _) (Or.inr ⟨?_, rfl⟩)
              simp only [lt_i, le_i, eq_i, lit_i] at *
              omega
        · refine c_mTold f7 ?_
          refine c_ones0 ?_
          refine hq _ _ (mq_mod.rf _ _ _) (Or.inl ⟨?_, rfl⟩)
          simp only [lt_i, le_i, eq_i, lit_i] at *
          omega
    apply mq_go 90 [103]
    refine c_isIn (fun a b => ?_) (fun a => ?_)
    · refine bq_f (by decide) ?_
      have e := sub_10 l10 (by decide) (x := x) (by simp only [lit_i] at a; exact a)
      have i1 : 0 ≤ (x - 10).toInt ∧ (x - 10).toInt < 9 := by simp only [lit_i] at a b; omega
      refine gq_i (inb_of i1) ?_
      refine hq _ _ (mq_mod.rf _ _ _) (Or.inl ⟨?_, f6 _ (cl_lt i1.1 i1.2)⟩)
      simp only [lt_i, le_i, eq_i, lit_i] at *
      omega
    · refine bq_t (by decide) ?_
      refine c_isIn (fun a' b' => ?_) (fun a' => ?_)
      · refine bq_f (by decide) ?_
        have e := sub_10 l20 (by decide) (x := x) (by simp only [lit_i] at a'; exact a')
        have i1 : 0 ≤ (x - 20).toInt ∧ (x - 20).toInt < 6 := by simp only [lit_i] at a' b'; omega
        refine gq_i (inb_of i1) ?_
        refine hq _ _ (mq_mod.rf _ _ _) (Or.inl ⟨?_, f5 _ (cl_lt i1.1 i1.2)⟩)
        simp only [lt_i, le_i, eq_i, lit_i] at *
        omega
      · refine bq_t (by decide) ?_
        refine lo2 ?_ ?_
        · simp only [lit_i] at a; exact a
        · simp only [lit_i] at a'; exact a'
  apply mq_go 90 [34]
  refine bn_c (fun c0 => ?_) (fun c0 => ?_)
  · refine bn_c (fun c1 => ?_) (fun c1 => ?_)
    · refine bn_c (fun c2 => ?_) (fun c2 => ?_)
      · have al : (x = 3 ∨ x = 4) → mq_At mq_G (mq_tT lL) 228 44 [some (.retAddr 59), some (.int x), none, none] [] h1 Q := by
          intro c
          apply mq_go 60 []
          refine bn_c (fun c5 => ?_) (fun c5 => ?_)
          · refine c_aliveNow f3 ?_
            refine hq _ _ (mq_mod.rf _ _ _) (Or.inl ⟨?_, rfl⟩)
            simp only [lt_i, le_i, eq_i, lit_i] at *
            omega
          · refine c_aliveNow f3 ?_
            refine hq _ _ (mq_mod.rf _ _ _) (Or.inl ⟨?_, rfl⟩)
            simp only [lt_i, le_i, eq_i, lit_i] at *
            omega
        show mq_At mq_G (mq_tT lL) 228 34 [some (.retAddr 59), some (.int x), none, none] [] h1 Q
        apply mq_go 90 [44, 59]
        refine bq_c (fun c3 => ?_) (fun c3 => ?_)
        · exact al (Or.inl c3)
        · refine bn_c (fun c4 => ?_) (fun c4 => ?_)
          · exact low c0 c1 c2 c3 c4
          · exact al (Or.inr c4)
      · refine hq _ _ (mq_mod.rf _ _ _) (Or.inl ⟨?_, f2⟩)
        simp only [lt_i, le_i, eq_i, lit_i] at *
        omega
    · refine hq _ _ (mq_mod.rf _ _ _) (Or.inl ⟨?_, f3⟩)
      simp only [lt_i, le_i, eq_i, lit_i] at *
      omega
  · refine hq _ _ (mq_mod.rf _ _ _) (Or.inl ⟨?_, f1⟩)
    simp only [lt_i, le_i, eq_i, lit_i] at *
    omega
end PM4
