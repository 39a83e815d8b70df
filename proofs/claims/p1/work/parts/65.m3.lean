/-! THE REFERENCE on a fresh object: change, claim, feed, look -/
section PM3
variable {lL : Nat} {h : mq_H} {Q : Option Value → mq_H → Prop}
theorem m_change (F : fr_M h) {x y z w : Int32} (hq : ∀ r h', mq_mod 59 100 0 0 h h' → sp_b ((0 ≤ x.toInt ∧ x.toInt < 6) ∧ (1 ≤ y.toInt ∧ y.toInt < 3000) ∧ 0 ≤ z.toInt ∧ z.toInt < 8) r → Q (some (.int r)) h') : mq_Call mq_G (mq_tT lL) 145 [.retAddr 59, .int x, .int y, .int z, .int w] h Q := by
  apply mq_enter 90 [5]
  refine m_told F (P := fun h1 => mq_At mq_G (mq_tT lL) 145 5 [some (.retAddr 59), some (.int x), some (.int y), some (.int z), some (.int w), none] [] h1 Q) (fun h1 F1 m1 => ?_)
  replace hq := fun r h' m s => hq r h' (mq_mod.tr (n1 := 0) (z1 := 0) (n2 := 0) (z2 := 0) m1 m (by decide) (by decide)) s
  clear F m1
  obtain ⟨f1, f2, f3, f4, f5, f6, f7, f8, f9, f10, f11⟩ := F1
  have go : (0 ≤ x.toInt ∧ x.toInt < 6) → (1 ≤ y.toInt ∧ y.toInt < 3000) → (0 ≤ z.toInt ∧ z.toInt < 8) → mq_At mq_G (mq_tT lL) 145 33 [some (.retAddr 59), some (.int x), some (.int y), some (.int z), some (.int w), none] [] h1 Q := by
    intro k1 k2 k3
    have e := f5 _ (cl_lt k1.1 k1.2)
    have m4 : (4 * x).toInt = 4 * x.toInt := by
      rw [Int32.toInt_mul, show (4 : Int32).toInt = 4 by decide]
      exact Int.bmod_eq_of_le (by omega) (by omega)
    have m5 : 0 ≤ (4 * x + 0).toInt ∧ (4 * x + 0).toInt < 24 := by
      rw [Int32.add_zero, m4]
      omega
    apply mq_go 120 []
    refine gq_i (inb_of k1) ?_
    refine bn_t (by rw [e]; decide) ?_
    refine gq_i (inb_of k1) ?_
    refine gq_i (inb_of k1) ?_
    refine bq_t (by rw [e]; decide) ?_
    rw [e]
    refine gq_i (inb_of m5) ?_
    refine gq_i (inb_of m5) ?_
    refine bq_c (fun c => ?_) (fun c => ?_)
    · refine gq_i (inb_of m5) ?_
      refine gq_i (inb_of k1) ?_
      refine gq_i (inb_of k1) ?_
      refine gq_i rfl ?_
      refine hq _ _ ?_ (Or.inl ⟨⟨k1, k2, k3⟩, rfl⟩)
      all_goals (first
          | exact mq_mod.rf _ _ _
          | (repeat (first | exact mq_mod.rf _ _ _ | assumption | refine mq_mod.sI ?_ (Or.inl ⟨by decide, by decide⟩) _ _ | refine mq_mod.sJ ?_ (Or.inl ⟨by decide, by decide⟩) _ _ | refine mq_mod.sR ?_ (Or.inl ⟨by decide, by decide⟩) _ _)); done
          | (refine mqM2 ?_ (md_w (by assumption)); (repeat (first | exact mq_mod.rf _ _ _ | refine mq_mod.sI ?_ (Or.inl ⟨by decide, by decide⟩) _ _ | refine mq_mod.sJ ?_ (Or.inl ⟨by decide, by decide⟩) _ _ | refine mq_mod.sR ?_ (Or.inl ⟨by decide, by decide⟩) _ _)); done)
          | exact Or.inl ⟨trivial, rfl⟩
          | rfl
          | (refine Or.inl ⟨?_, rfl⟩; simp only [lt_i, le_i, eq_i, lit_i] at *; omega)
          | (refine Or.inr ⟨?_, rfl⟩; simp only [lt_i, le_i, eq_i, lit_i] at *; omega)
          | (refine Or.inl ⟨?_, by assumption⟩; simp only [lt_i, le_i, eq_i, lit_i] at *; omega)
          | (refine Or.inr ⟨?_, by assumption⟩; simp only [lt_i, le_i, eq_i, lit_i] at *; omega)
          | assumption
          | (exfalso; simp only [lt_i, le_i, eq_i, lit_i] at *; omega))
    · refine gq_i (inb_of m5) ?_
      refine gq_i (inb_of k1) ?_
      refine gq_i (inb_of k1) ?_
      refine gq_i rfl ?_
      refine hq _ _ ?_ (Or.inl ⟨⟨k1, k2, k3⟩, rfl⟩)
      all_goals (first
          | exact mq_mod.rf _ _ _
          | (repeat (first | exact mq_mod.rf _ _ _ | assumption | refine mq_mod.sI ?_ (Or.inl ⟨by decide, by decide⟩) _ _ | refine mq_mod.sJ ?_ (Or.inl ⟨by decide, by decide⟩) _ _ | refine mq_mod.sR ?_ (Or.inl ⟨by decide, by decide⟩) _ _)); done
          | (refine mqM2 ?_ (md_w (by assumption)); (repeat (first | exact mq_mod.rf _ _ _ | refine mq_mod.sI ?_ (Or.inl ⟨by decide, by decide⟩) _ _ | refine mq_mod.sJ ?_ (Or.inl ⟨by decide, by decide⟩) _ _ | refine mq_mod.sR ?_ (Or.inl ⟨by decide, by decide⟩) _ _)); done)
          | exact Or.inl ⟨trivial, rfl⟩
          | rfl
          | (refine Or.inl ⟨?_, rfl⟩; simp only [lt_i, le_i, eq_i, lit_i] at *; omega)
          | (refine Or.inr ⟨?_, rfl⟩; simp only [lt_i, le_i, eq_i, lit_i] at *; omega)
          | (refine Or.inl ⟨?_, by assumption⟩; simp only [lt_i, le_i, eq_i, lit_i] at *; omega)
          | (refine Or.inr ⟨?_, by assumption⟩; simp only [lt_i, le_i, eq_i, lit_i] at *; omega)
          | assumption
          | (exfalso; simp only [lt_i, le_i, eq_i, lit_i] at *; omega))
  apply mq_go 90 [33]
  repeat' (first
      | (refine hq _ _ ?_ ?_)
      | (refine gq_i rfl ?_)
      | (refine gq_i (by apply inb_of; simp only [lt_i, le_i, eq_i, lit_i] at *; omega) ?_)
      | (refine bq_t (by decide) ?_)
      | (refine bq_f (by decide) ?_)
      | (refine bn_t (by decide) ?_)
      | (refine bn_f (by decide) ?_)
      | (refine c_isPlace (fun a2 b2 => ?_) (fun a2 => ?_))
      | (refine c_isLaw (fun a3 b3 => ?_) (fun a3 => ?_))
      | (refine c_isIn (fun a4 b4 => ?_) (fun a4 => ?_))
      | (refine bq_c (fun c => ?_) (fun c => ?_))
      | (refine bn_c (fun c => ?_) (fun c => ?_)))
  all_goals (first | (refine go ?_ ?_ ?_ <;> (simp only [lt_i, le_i, eq_i, lit_i] at *; omega)) | skip)
  all_goals (first
      | exact mq_mod.rf _ _ _
      | (repeat (first | exact mq_mod.rf _ _ _ | assumption | refine mq_mod.sI ?_ (Or.inl ⟨by decide, by decide⟩) _ _ | refine mq_mod.sJ ?_ (Or.inl ⟨by decide, by decide⟩) _ _ | refine mq_mod.sR ?_ (Or.inl ⟨by decide, by decide⟩) _ _)); done
      | (refine mqM2 ?_ (md_w (by assumption)); (repeat (first | exact mq_mod.rf _ _ _ | refine mq_mod.sI ?_ (Or.inl ⟨by decide, by decide⟩) _ _ | refine mq_mod.sJ ?_ (Or.inl ⟨by decide, by decide⟩) _ _ | refine mq_mod.sR ?_ (Or.inl ⟨by decide, by decide⟩) _ _)); done)
      | exact Or.inl ⟨trivial, rfl⟩
      | rfl
      | (refine Or.inl ⟨?_, rfl⟩; simp only [lt_i, le_i, eq_i, lit_i] at *; omega)
      | (refine Or.inr ⟨?_, rfl⟩; simp only [lt_i, le_i, eq_i, lit_i] at *; omega)
      | (refine Or.inl ⟨?_, by assumption⟩; simp only [lt_i, le_i, eq_i, lit_i] at *; omega)
      | (refine Or.inr ⟨?_, by assumption⟩; simp only [lt_i, le_i, eq_i, lit_i] at *; omega)
      | assumption
      | (exfalso; simp only [lt_i, le_i, eq_i, lit_i] at *; omega))
theorem m_claim (F : fr_M h) {x y z u v w : Int32} (hq : ∀ r h', mq_mod 59 100 0 0 h h' → sp_v ((0 ≤ x.toInt ∧ x.toInt < 6) ∧ (0 ≤ y.toInt ∧ y.toInt < 10) ∧ (0 ≤ z.toInt ∧ z.toInt < 10000) ∧ (0 ≤ u.toInt ∧ u.toInt < 3000) ∧ (0 ≤ v.toInt ∧ v.toInt < 3000) ∧ (0 ≤ w.toInt ∧ w.toInt < 3000) ∧ u.toInt ≤ v.toInt ∧ u.toInt ≤ w.toInt) 0 (-1) r → Q (some (.int r)) h') : mq_Call mq_G (mq_tT lL) 147 [.retAddr 59, .int x, .int y, .int z, .int u, .int v, .int w] h Q := by
  apply mq_enter 90 [5]
  refine m_told F (P := fun h1 => mq_At mq_G (mq_tT lL) 147 5 [some (.retAddr 59), some (.int x), some (.int y), some (.int z), some (.int u), some (.int v), some (.int w)] [] h1 Q) (fun h1 F1 m1 => ?_)
  replace hq := fun r h' m s => hq r h' (mq_mod.tr (n1 := 0) (z1 := 0) (n2 := 0) (z2 := 0) m1 m (by decide) (by decide)) s
  clear F m1
  obtain ⟨f1, f2, f3, f4, f5, f6, f7, f8, f9, f10, f11⟩ := F1
  have go : ((0 ≤ x.toInt ∧ x.toInt < 6) ∧ (0 ≤ y.toInt ∧ y.toInt < 10) ∧ (0 ≤ z.toInt ∧ z.toInt < 10000) ∧ (0 ≤ u.toInt ∧ u.toInt < 3000) ∧ (0 ≤ v.toInt ∧ v.toInt < 3000) ∧ (0 ≤ w.toInt ∧ w.toInt < 3000) ∧ u.toInt ≤ v.toInt ∧ u.toInt ≤ w.toInt) → mq_At mq_G (mq_tT lL) 147 77 [some (.retAddr 59), some (.int x), some (.int y), some (.int z), some (.int u), some (.int v), some (.int w)] [] h1 Q := by
    intro k
    apply mq_go 120 []
    refine bn_t (by rw [f3]; decide) ?_
    refine gq_i (by simp [mq_I_setI, f3]; decide) ?_
    refine gq_i (by simp [mq_I_setI, f3]; decide) ?_
    refine gq_i (by simp [mq_I_setI, f3]; decide) ?_
    refine gq_i (by simp [mq_I_setI, f3]; decide) ?_
    refine gq_i (by simp [mq_I_setI, f3]; decide) ?_
    refine gq_i (by simp [mq_I_setI, f3]; decide) ?_
    refine gq_i (by simp [mq_I_setI, f3]; decide) ?_
    refine gq_i (by simp [mq_I_setI, f3]; decide) ?_
    refine hq _ _ ?_ (Or.inl ⟨k, by simp [mq_I_setI, f3]⟩)
    all_goals (first
        | exact mq_mod.rf _ _ _
        | (repeat (first | exact mq_mod.rf _ _ _ | assumption | refine mq_mod.sI ?_ (Or.inl ⟨by decide, by decide⟩) _ _ | refine mq_mod.sJ ?_ (Or.inl ⟨by decide, by decide⟩) _ _ | refine mq_mod.sR ?_ (Or.inl ⟨by decide, by decide⟩) _ _)); done
        | (refine mqM2 ?_ (md_w (by assumption)); (repeat (first | exact mq_mod.rf _ _ _ | refine mq_mod.sI ?_ (Or.inl ⟨by decide, by decide⟩) _ _ | refine mq_mod.sJ ?_ (Or.inl ⟨by decide, by decide⟩) _ _ | refine mq_mod.sR ?_ (Or.inl ⟨by decide, by decide⟩) _ _)); done)
        | exact Or.inl ⟨trivial, rfl⟩
        | rfl
        | (refine Or.inl ⟨?_, rfl⟩; simp only [lt_i, le_i, eq_i, lit_i] at *; omega)
        | (refine Or.inr ⟨?_, rfl⟩; simp only [lt_i, le_i, eq_i, lit_i] at *; omega)
        | (refine Or.inl ⟨?_, by assumption⟩; simp only [lt_i, le_i, eq_i, lit_i] at *; omega)
        | (refine Or.inr ⟨?_, by assumption⟩; simp only [lt_i, le_i, eq_i, lit_i] at *; omega)
        | assumption
        | (exfalso; simp only [lt_i, le_i, eq_i, lit_i] at *; omega))
  apply mq_go 90 [77]
  repeat' (first
      | (refine hq _ _ ?_ ?_)
      | (refine gq_i rfl ?_)
      | (refine gq_i (by apply inb_of; simp only [lt_i, le_i, eq_i, lit_i] at *; omega) ?_)
      | (refine bq_t (by decide) ?_)
      | (refine bq_f (by decide) ?_)
      | (refine bn_t (by decide) ?_)
      | (refine bn_f (by decide) ?_)
      | (refine c_isPlace (fun a2 b2 => ?_) (fun a2 => ?_))
      | (refine c_isIn (fun a4 b4 => ?_) (fun a4 => ?_))
      | (refine bq_c (fun c => ?_) (fun c => ?_))
      | (refine bn_c (fun c => ?_) (fun c => ?_)))
  all_goals (first | (refine go ?_ <;> (simp only [lt_i, le_i, eq_i, lit_i] at *; omega)) | skip)
  all_goals (first
      | exact mq_mod.rf _ _ _
      | (repeat (first | exact mq_mod.rf _ _ _ | assumption | refine mq_mod.sI ?_ (Or.inl ⟨by decide, by decide⟩) _ _ | refine mq_mod.sJ ?_ (Or.inl ⟨by decide, by decide⟩) _ _ | refine mq_mod.sR ?_ (Or.inl ⟨by decide, by decide⟩) _ _)); done
      | (refine mqM2 ?_ (md_w (by assumption)); (repeat (first | exact mq_mod.rf _ _ _ | refine mq_mod.sI ?_ (Or.inl ⟨by decide, by decide⟩) _ _ | refine mq_mod.sJ ?_ (Or.inl ⟨by decide, by decide⟩) _ _ | refine mq_mod.sR ?_ (Or.inl ⟨by decide, by decide⟩) _ _)); done)
      | exact Or.inl ⟨trivial, rfl⟩
      | rfl
      | (refine Or.inl ⟨?_, rfl⟩; simp only [lt_i, le_i, eq_i, lit_i] at *; omega)
      | (refine Or.inr ⟨?_, rfl⟩; simp only [lt_i, le_i, eq_i, lit_i] at *; omega)
      | (refine Or.inl ⟨?_, by assumption⟩; simp only [lt_i, le_i, eq_i, lit_i] at *; omega)
      | (refine Or.inr ⟨?_, by assumption⟩; simp only [lt_i, le_i, eq_i, lit_i] at *; omega)
      | assumption
      | (exfalso; simp only [lt_i, le_i, eq_i, lit_i] at *; omega))
theorem c_ty1 {x s : Int32} {n : Nat} (hs : ¬ s < 0) (hn : mq_I h 59 25 = nI n) (hn4 : n < 400) (K : ∀ h', mq_mod 59 100 0 0 h h' → mq_I h' 59 25 = nI (n + 1) → mq_At mq_G (mq_tT lL) 154 3 [some (.retAddr 59), some (.int x), some (.int (s + (-8)))] [] h' Q) : mq_At mq_G (mq_tT lL) 154 3 [some (.retAddr 59), some (.int x), some (.int s)] [] h Q := by
  apply mq_go 40 [3]
  refine bq_f hs ?_
  refine gq_i (by rw [hn]; exact inb_nI (by omega) (by decide)) ?_
  refine K _ (((mq_mod.rf 0 0 h).sI (Or.inl ⟨by decide, by decide⟩) _ _).sI (Or.inl ⟨by decide, by decide⟩) _ _) ?_
  rw [mq_I_setI, if_pos rfl, if_pos rfl, mq_I_setI, if_neg (by decide), hn, nI_1]
theorem mr4 {h h1 h2 h3 h4 : mq_H} (a : mq_mod 59 100 0 0 h h1) (b : mq_mod 59 100 0 0 h1 h2) (c : mq_mod 59 100 0 0 h2 h3) (d : mq_mod 59 100 0 0 h3 h4) : mq_mod 59 100 0 0 h h4 := mq_mod.tr (n1 := 0) (z1 := 0) (n2 := 0) (z2 := 0) (mq_mod.tr (n1 := 0) (z1 := 0) (n2 := 0) (z2 := 0) a b (by decide) (by decide)) (mq_mod.tr (n1 := 0) (z1 := 0) (n2 := 0) (z2 := 0) c d (by decide) (by decide)) (by decide) (by decide)
theorem mr2 {h h1 h2 : mq_H} (a : mq_mod 59 100 0 0 h h1) (b : mq_mod 59 100 0 0 h1 h2) : mq_mod 59 100 0 0 h h2 := mq_mod.tr (n1 := 0) (z1 := 0) (n2 := 0) (z2 := 0) a b (by decide) (by decide)
theorem c_types {x : Int32} {n : Nat} (hn : mq_I h 59 25 = nI n) (hn4 : n + 4 ≤ 400) (hq : ∀ h', mq_mod 59 100 0 0 h h' → mq_I h' 59 25 = nI (n + 4) → Q none h') : mq_Call mq_G (mq_tT lL) 154 [.retAddr 59, .int x] h Q := by
  apply mq_enter 40 [3]
  refine c_ty1 (by decide) hn (by omega) (fun h1 m1 e1 => ?_)
  refine c_ty1 (by decide) e1 (by omega) (fun h2 m2 e2 => ?_)
  refine c_ty1 (by decide) e2 (by omega) (fun h3 m3 e3 => ?_)
  refine c_ty1 (by decide) e3 (by omega) (fun h4 m4 e4 => ?_)
  apply mq_go 40 []
  refine bq_t (by decide) ?_
  exact hq h4 (mr4 m1 m2 m3 m4) e4
theorem m_feed (F : fr_M h) {x1 x2 x3 x4 x5 : Int32} (hq : ∀ r h', mq_mod 59 100 0 0 h h' → r = 20 → Q (some (.int r)) h') : mq_Call mq_G (mq_tT lL) 155 [.retAddr 59, .int x1, .int x2, .int x3, .int x4, .int x5] h Q := by
  apply mq_enter 90 [5]
  refine m_told F (P := fun h1 => mq_At mq_G (mq_tT lL) 155 5 [some (.retAddr 59), some (.int x1), some (.int x2), some (.int x3), some (.int x4), some (.int x5)] [] h1 Q) (fun h1 F1 m1 => ?_)
  replace hq := fun r h' m s => hq r h' (mq_mod.tr (n1 := 0) (z1 := 0) (n2 := 0) (z2 := 0) m1 m (by decide) (by decide)) s
  clear F m1
  obtain ⟨f1, f2, f3, f4, f5, f6, f7, f8, f9, f10, f11⟩ := F1
  apply mq_go 60 []
  refine bq_t (by rw [f4]; decide) ?_
  refine c_types (n := 0) f4 (by decide) (fun h2 m2 e2 => ?_)
  refine c_types e2 (by decide) (fun h3 m3 e3 => ?_)
  refine c_types e3 (by decide) (fun h4 m4 e4 => ?_)
  refine c_types e4 (by decide) (fun h5 m5 e5 => ?_)
  refine c_types e5 (by decide) (fun h6 m6 e6 => ?_)
  exact hq _ _ (mr2 m2 (mr4 m3 m4 m5 m6)) e6
theorem c_mTold (f7 : ∀ k, k < 6 → mq_I h 76 k = -1) (hq : Q (some (.int 0)) h) : mq_Call mq_G (mq_tT lL) 204 [.retAddr 59] h Q := by
  apply mq_enter 300 []
  repeat' (first
      | (refine hq _ _ ?_ ?_)
      | (refine gq_i rfl ?_)
      | (refine gq_i (by apply inb_of; simp only [lt_i, le_i, eq_i, lit_i] at *; omega) ?_)
      | (refine bq_t (by decide) ?_)
      | (refine bq_f (by decide) ?_)
      | (refine bn_t (by decide) ?_)
      | (refine bn_f (by decide) ?_)
      | (refine bq_t (f7 _ (by decide)) ?_)
      | (refine bq_c (fun c => ?_) (fun c => ?_))
      | (refine bn_c (fun c => ?_) (fun c => ?_)))
  exact hq
theorem c_ones0 (hq : Q (some (.int 0)) h) : mq_Call mq_G (mq_tT lL) 138 [.retAddr 59, .int 0] h Q := by
  apply mq_enter 60 []
  refine bq_t (by decide) ?_
  exact hq
theorem c_aliveNow (f3 : mq_I h 59 9 = 0) {x : Int32} (hq : Q (some (.int 0)) h) : mq_Call mq_G (mq_tT lL) 227 [.retAddr 59, .int x] h Q := by
  apply mq_enter 60 [11]
  refine bq_t (by rw [f3]; decide) ?_
  exact hq
end PM3
