/-! THE CLASS on a fresh object: look, beside, feed -/
section PC6
variable {lL : Nat} {h : mq_H} {Q : Option Value → mq_H → Prop}
theorem sub_10 {x : Int32} {y : Int32} {n : Int} (h : y.toInt = n) (hn : 0 ≤ n ∧ n ≤ 100) (a : n ≤ x.toInt) : (x - y).toInt = x.toInt - n := by
  rw [Int32.toInt_sub, h]
  have := x.toInt_lt
  exact Int.bmod_eq_of_le (by omega) (by omega)
theorem c_told (f8 : ∀ k, k < 6 → mq_I h 31 k = -1) (hq : Q (some (.int 0)) h) : mq_Call mq_G (mq_tT lL) 2 [.retAddr 30] h Q := by
  apply mq_enter 300 []
  repeat' (first
      | (refine hq _ _ ?_ ?_)
      | (refine gq_i rfl ?_)
      | (refine gq_i (by apply inb_of; simp only [lt_i, le_i, eq_i, lit_i] at *; omega) ?_)
      | (refine bq_t (by decide) ?_)
      | (refine bq_f (by decide) ?_)
      | (refine bn_t (by decide) ?_)
      | (refine bn_f (by decide) ?_)
      | (refine bq_t (f8 _ (by decide)) ?_)
      | (refine bq_c (fun c => ?_) (fun c => ?_))
      | (refine bn_c (fun c => ?_) (fun c => ?_)))
  exact hq
theorem val_eq {v w : Int32} (e : v = w) (hq : Q (some (.int w)) h) : Q (some (.int v)) h := e ▸ hq
set_option maxRecDepth 100000 in
theorem c_bit0 (hq : Q (some (.int 0)) h) : mq_Call mq_G (mq_tT lL) 229 [.int 0] h Q := by
  apply mq_enter 60 []
  refine val_eq (w := 0) ?_ hq
  decide +kernel
theorem c_count0 (f2 : mq_I h 17 0 = 0) {x : Int32} (hq : Q (some (.int 0)) h) : mq_Call mq_G (mq_tT lL) 130 [.retAddr 4, .int x] h Q := by
  apply mq_enter 60 [18]
  refine bq_t (by rw [f2]; decide) ?_
  exact hq
theorem c_lookAt (F : fr_C h) {x : Int32} (hq : ∀ r, sp_v ((10 ≤ x.toInt ∧ x.toInt < 18) ∨ (20 ≤ x.toInt ∧ x.toInt < 26)) 0 (-1) r → Q (some (.int r)) h) : mq_Call mq_G (mq_tT lL) 131 [.retAddr 4, .int x] h Q := by
  obtain ⟨f1, f2, f3, f4, f5, f6, f7, f8, f9, f10, f11⟩ := F
  have l10 : (10 : Int32).toInt = 10 := by decide
  have l20 : (20 : Int32).toInt = 20 := by decide
  have low : (¬ (10 : Int32) ≤ x ∨ ¬ x < (18 : Int32)) → mq_At mq_G (mq_tT lL) 131 32 [some (.retAddr 4), some (.int x)] [] h Q := by
    intro hc
    apply mq_go 60 [60]
    have hi : (x < 20 ∨ (26 : Int32) ≤ x) → mq_At mq_G (mq_tT lL) 131 60 [some (.retAddr 4), some (.int x)] [] h Q := by
      intro hc2
      apply mq_go 60 [83]
      refine bq_c (fun c => ?_) (fun c => ?_)
      · refine hq _ (Or.inr ⟨?_, rfl⟩)
        simp only [lt_i, le_i, eq_i, lit_i] at *
        omega
      · refine bq_c (fun c2 => ?_) (fun c2 => ?_)
        · refine hq _ (Or.inr ⟨?_, rfl⟩)
          simp only [lt_i, le_i, eq_i, lit_i] at *
          omega
        · exfalso
          rw [f2, Int32.add_zero] at c2
          simp only [lt_i, le_i, eq_i, lit_i] at *
          omega
    refine bq_c (fun c => ?_) (fun c => ?_)
    · exact hi (Or.inl c)
    · refine bq_c (fun c2 => ?_) (fun c2 => ?_)
      · exact hi (Or.inr c2)
      · have e := sub_10 l20 (by decide) (x := x) (by simp only [lt_i, le_i, eq_i, lit_i] at *; omega)
        have i1 : 0 ≤ (x - 20).toInt ∧ (x - 20).toInt < 6 := by simp only [lt_i, le_i, eq_i, lit_i] at *; omega
        refine gq_i (inb_of i1) ?_
        refine hq _ (Or.inl ⟨?_, f4 _ (cl_lt i1.1 i1.2)⟩)
        simp only [lt_i, le_i, eq_i, lit_i] at *
        omega
  apply mq_enter 60 [32]
  refine bq_c (fun c => ?_) (fun c => ?_)
  · exact low (Or.inl (by simp only [lt_i, le_i, eq_i, lit_i] at *; omega))
  · refine bq_c (fun c2 => ?_) (fun c2 => ?_)
    · exact low (Or.inr (by simp only [lt_i, le_i, eq_i, lit_i] at *; omega))
    · have e := sub_10 l10 (by decide) (x := x) (by simp only [lt_i, le_i, eq_i, lit_i] at *; omega)
      have i1 : 0 ≤ (x - 10).toInt ∧ (x - 10).toInt < 8 := by simp only [lt_i, le_i, eq_i, lit_i] at *; omega
      refine gq_i (inb_of i1) ?_
      refine oq_s (f9 _ (cl_lt i1.1 i1.2)) ?_
      refine gq_i (by rw [f11.2.1]; rfl) ?_
      refine oq_s f11.2.2.1 ?_
      refine gq_i (by rw [f11.2.2.2]; rfl) ?_
      refine hq _ (Or.inl ⟨?_, by rw [f11.2.2.2]; rfl⟩)
      simp only [lt_i, le_i, eq_i, lit_i] at *
      omega
theorem f_look (F : fr_C h) {x : Int32} (hq : ∀ r h', mq_mod 4 59 200 20000 h h' → sp_v ((0 ≤ x.toInt ∧ x.toInt ≤ 7) ∨ (10 ≤ x.toInt ∧ x.toInt < 18) ∨ (20 ≤ x.toInt ∧ x.toInt < 26)) 0 (-1) r → Q (some (.int r)) h') : mq_Call mq_G (mq_tT lL) 129 [.retAddr 4, .int x] h Q := by
  have F' := F
  obtain ⟨f1, f2, f3, f4, f5, f6, f7, f8, f9, f10, f11⟩ := F
  apply mq_enter 150 [61]
  have low : (x < 3 ∨ 6 < x) → ¬ x = 0 → ¬ x = 1 → ¬ x = 2 → mq_At mq_G (mq_tT lL) 129 61 [some (.retAddr 4), some (.int x)] [] h Q := by
    intro c0 c1 c2 c3
    apply mq_go 60 []
    refine bn_c (fun c => ?_) (fun c => ?_)
    · refine c_lookAt F' (fun r hr => ?_)
      refine hq _ _ (mq_mod.rf _ _ _) ?_
      rcases hr with ⟨p, e⟩ | ⟨p, e⟩
      · exact Or.inl ⟨Or.inr p, e⟩
      · refine Or.inr ⟨?_, e⟩
        simp only [lt_i, le_i, eq_i, lit_i] at *
        omega
    · refine c_told f8 ?_
      refine c_bit0 ?_
      refine hq _ _ (mq_mod.rf _ _ _) (Or.inl ⟨?_, rfl⟩)
      simp only [lt_i, le_i, eq_i, lit_i] at *
      omega
  refine bn_c (fun c1 => ?_) (fun c1 => ?_)
  · refine bn_c (fun c2 => ?_) (fun c2 => ?_)
    · refine bn_c (fun c3 => ?_) (fun c3 => ?_)
      · refine bq_c (fun c4 => ?_) (fun c4 => ?_)
        · exact low (Or.inl c4) c1 c2 c3
        · refine bq_c (fun c5 => ?_) (fun c5 => ?_)
          · exact low (Or.inr c5) c1 c2 c3
          · refine c_count0 f2 ?_
            refine hq _ _ (mq_mod.rf _ _ _) (Or.inl ⟨?_, rfl⟩)
            simp only [lt_i, le_i, eq_i, lit_i] at *
            omega
      · refine hq _ _ (mq_mod.rf _ _ _) (Or.inl ⟨?_, f3⟩)
        simp only [lt_i, le_i, eq_i, lit_i] at *
        omega
    · refine hq _ _ (mq_mod.rf _ _ _) (Or.inl ⟨?_, f2⟩)
      simp only [lt_i, le_i, eq_i, lit_i] at *
      omega
  · refine hq _ _ (mq_mod.rf _ _ _) (Or.inl ⟨?_, f1⟩)
    simp only [lt_i, le_i, eq_i, lit_i] at *
    omega
theorem f_beside (F : fr_C h) {x y z : Int32} (hq : ∀ r h', mq_mod 4 59 200 20000 h h' → sp_v ((0 ≤ x.toInt ∧ x.toInt < 8) ∧ (0 ≤ y.toInt ∧ y.toInt < 8) ∧ 0 ≤ z.toInt ∧ z.toInt ≤ 1) 0 (-1) r → Q (some (.int r)) h') : mq_Call mq_G (mq_tT lL) 127 [.retAddr 4, .int x, .int y, .int z] h Q := by
  obtain ⟨f1, f2, f3, f4, f5, f6, f7, f8, f9, f10, f11⟩ := F
  apply mq_enter 150 [53]
  repeat' (first
      | (refine hq _ _ ?_ ?_)
      | (refine gq_i rfl ?_)
      | (refine gq_i (by apply inb_of; simp only [lt_i, le_i, eq_i, lit_i] at *; omega) ?_)
      | (refine bq_t (by decide) ?_)
      | (refine bq_f (by decide) ?_)
      | (refine bn_t (by decide) ?_)
      | (refine bn_f (by decide) ?_)
      | (refine bq_t (by rw [f2]; decide) ?_)
      | (refine c_within (fun a2 b2 => ?_) (fun a2 => ?_))
      | (refine bq_c (fun c => ?_) (fun c => ?_))
      | (refine bn_c (fun c => ?_) (fun c => ?_)))
  all_goals (first
      | exact mq_mod.rf _ _ _
      | (repeat (first | exact mq_mod.rf _ _ _ | assumption | refine mq_mod.sI ?_ (Or.inl ⟨by decide, by decide⟩) _ _ | refine mq_mod.sJ ?_ (Or.inl ⟨by decide, by decide⟩) _ _ | refine mq_mod.sR ?_ (Or.inl ⟨by decide, by decide⟩) _ _)); done
      | (refine mqM2 ?_ (md_w (by assumption)); (repeat (first | exact mq_mod.rf _ _ _ | refine mq_mod.sI ?_ (Or.inl ⟨by decide, by decide⟩) _ _ | refine mq_mod.sJ ?_ (Or.inl ⟨by decide, by decide⟩) _ _ | refine mq_mod.sR ?_ (Or.inl ⟨by decide, by decide⟩) _ _)); done)
      | exact Or.inl ⟨trivial, rfl⟩
      | rfl
      | (refine Or.inl ⟨?_, rfl⟩; simp only [lt_i, le_i, eq_i, lit_i] at *; omega)
      | (refine Or.inr ⟨?_, rfl⟩; simp only [lt_i, le_i, eq_i, lit_i] at *; omega)
      | (refine Or.inl ⟨?_, by assumption⟩; simp only [lt_i, le_i, eq_i, lit_i] at *; omega)
      | (refine Or.inr ⟨?_, by assumption⟩; simp only [lt_i, le_i, eq_i, lit_i] at *; omega)
      | assumption
      | (exfalso; simp only [lt_i, le_i, eq_i, lit_i] at *; omega))
theorem f_feed (F : fr_C h) {x1 x2 x3 x4 x5 : Int32} (hq : ∀ r h', mq_mod 4 59 200 20000 h h' → r = 20 → Q (some (.int r)) h') : mq_Call mq_G (mq_tT lL) 107 [.retAddr 4, .int x1, .int x2, .int x3, .int x4, .int x5] h Q := by
  obtain ⟨f1, f2, f3, f4, f5, f6, f7, f8, f9, f10, f11⟩ := F
  apply mq_enter 60 []
  refine bq_t (by rw [f5]; decide) ?_
  refine c_putBytes (n := 0) f5 (by decide) (fun h1 m1 e1 => ?_)
  refine c_putBytes e1 (by decide) (fun h2 m2 e2 => ?_)
  refine c_putBytes e2 (by decide) (fun h3 m3 e3 => ?_)
  refine c_putBytes e3 (by decide) (fun h4 m4 e4 => ?_)
  refine c_putBytes e4 (by decide) (fun h5 m5 e5 => ?_)
  have mm := mq_mod.tr (n := 0) (z := 0) (mq_mod.tr (n := 0) (z := 0) (mq_mod.tr (n := 0) (z := 0) (mq_mod.tr (n := 0) (z := 0) m1 m2 (by decide) (by decide)) m3 (by decide) (by decide)) m4 (by decide) (by decide)) m5 (by decide) (by decide)
  exact hq _ _ (mm.wd (by decide) (by decide) (by decide) (by decide)) e5
end PC6
