/-! THE REFERENCE on a fresh object: image, whole -/
section PM9
variable {lL : Nat} {h : mq_H} {Q : Option Value → mq_H → Prop}
theorem c_keepsClaims {n0 : Nat} (hn : mq_I h 59 70 = nI n0) (hb : n0 + 3397 ≤ 13500) (hq : ∀ h', mq_mod 59 100 0 0 h h' → mq_I h' 59 70 = nI (n0 + 3397) → Q none h') : mq_Call mq_G (mq_tT lL) 224 [.retAddr 59] h Q := by
  apply mq_enter 60 [14]
  refine c_kept hn (by omega) (fun r g1 m1 e1 => ?_)
  refine l_c1 (n0 := n0 + 1) (by rw [mq_I_setI, if_pos rfl, if_neg (by decide)]; exact e1) (by omega) (fun g2 m2 e2 => ?_)
  apply mq_go 60 [108]
  refine l_c2 e2 (by omega) (fun g3 m3 e3 => ?_)
  apply mq_go 60 [139]
  refine l_c3 e3 (by omega) (fun g4 m4 e4 => ?_)
  apply mq_go 60 [218]
  refine l_c4 e4 (by omega) (fun g5 m5 e5 => ?_)
  apply mq_go 60 [280]
  refine l_c5 e5 (by omega) (fun g6 m6 e6 => ?_)
  apply mq_go 60 []
  refine hq _ (mr4 (m1.sI (Or.inl ⟨by decide, by decide⟩) _ _) m2 m3 (mr4 m4 m5 m6 (mq_mod.rf 0 0 _))) ?_
  rw [e6]
theorem c_keepsLaws {n0 : Nat} (hn : mq_I h 59 70 = nI n0) (hb : n0 + 7048 ≤ 13500) (hq : ∀ h', mq_mod 59 100 0 0 h h' → Q none h') : mq_Call mq_G (mq_tT lL) 225 [.retAddr 59] h Q := by
  apply mq_enter 60 [2]
  refine l_l1 hn (by omega) (fun g2 m2 e2 => ?_)
  apply mq_go 60 [32]
  refine l_l2 e2 (by omega) (fun g3 m3 e3 => ?_)
  apply mq_go 60 [127]
  refine l_l3 e3 (by omega) (fun g4 m4 e4 => ?_)
  apply mq_go 60 []
  exact hq _ (mr4 m2 m3 m4 (mq_mod.rf 0 0 _))
theorem m_image (F : fr_M h) {x : Int32} (hx : mq_bit x = true) (hq : ∀ r h', mq_mod 59 100 0 0 h h' → sp_b (¬ x = 0) r → Q (some (.int r)) h') : mq_Call mq_G (mq_tT lL) 226 [.retAddr 59, .int x] h Q := by
  apply mq_enter 90 [5]
  refine m_told F (P := fun h1 => mq_At mq_G (mq_tT lL) 226 5 [some (.retAddr 59), some (.int x), none] [] h1 Q) (fun h1 F1 m1 => ?_)
  replace hq := fun r h' m s => hq r h' (mq_mod.tr (n1 := 0) (z1 := 0) (n2 := 0) (z2 := 0) m1 m (by decide) (by decide)) s
  clear F m1
  obtain ⟨f1, f2, f3, f4, f5, f6, f7, f8, f9, f10, f11⟩ := F1
  apply mq_go 60 [18]
  refine bn_c (fun c => ?_) (fun c => ?_)
  · show mq_At mq_G (mq_tT lL) 226 18 [some (.retAddr 59), some (.int x), none] [] h1 Q
    apply mq_go 90 [59]
    refine gq_i hx ?_
    refine gq_i rfl ?_
    refine c_kept (n := 0) (by simp [mq_I_setI]; rfl) (by decide) (fun r g1 m1 e1 => ?_)
    refine c_kept (n := 1) (by rw [mq_I_setI, if_pos rfl, if_neg (by decide)]; exact e1) (by decide) (fun r2 g2 m2 e2 => ?_)
    refine l_i1 (n0 := 2) (by rw [mq_I_setI, if_pos rfl, if_neg (by decide)]; exact e2) (by decide) (fun g3 m3 e3 => ?_)
    apply mq_go 60 [89]
    refine l_i2 e3 (by decide) (fun g4 m4 e4 => ?_)
    apply mq_go 60 [135]
    refine l_i3 e4 (by decide) (fun g5 m5 e5 => ?_)
    apply mq_go 60 []
    refine c_keepsClaims e5 (by decide) (fun g6 m6 e6 => ?_)
    refine c_keepsLaws e6 (by decide) (fun g7 m7 => ?_)
    refine gq_i rfl ?_
    refine hq _ _ ?_ (Or.inl ⟨c, rfl⟩)
    refine mr4 ?_ (m2.sI (Or.inl ⟨by decide, by decide⟩) _ _) m3 (mr4 m4 m5 m6 m7)
    refine mq_mod.sI ?_ (Or.inl ⟨by decide, by decide⟩) _ _
    refine mr2 ?_ m1
    all_goals (first
        | exact mq_mod.rf _ _ _
        | (repeat (first | exact mq_mod.rf _ _ _ | assumption | refine mq_mod.sI ?_ (Or.inl ⟨by decide, by decide⟩) _ _ | refine mq_mod.sJ ?_ (Or.inl ⟨by decide, by decide⟩) _ _ | refine mq_mod.sR ?_ (Or.inl ⟨by decide, by decide⟩) _ _)); done
        | (refine mqM2 ?_ (md_w (by assumption)); (repeat (first | exact mq_mod.rf _ _ _ | refine mq_mod.sI ?_ (Or.inl ⟨by decide, by decide⟩) _ _ | refine mq_mod.sJ ?_ (Or.inl ⟨by decide, by decide⟩) _ _ | refine mq_mod.sR ?_ (Or.inl ⟨by decide, by decide⟩) _ _)); done)
        | exact Or.inl ⟨trivial, rfl⟩
        | rfl
        | (refine Or.inl ⟨?_, rfl⟩; simp only [lt_i, le_i, eq_i, lit_i] at *; omega)
        | (refine Or.inr ⟨?_, rfl⟩; simp only [lt_i, le_i, eq_i, lit_i] at *; omega)
        | (refine Or.inl ⟨?_, by assumption⟩; simp only [lt_i, le_i, eq_i, lit_i] at *; omega)
        | (refine Or.inr ⟨?_, by assumption⟩; simp only [lt_i, le_i, eq_i, lit_i] at *; omega)
        | assumption
        | (exfalso; simp only [lt_i, le_i, eq_i, lit_i] at *; omega))
  · refine bn_f f10 ?_
    refine gq_i rfl ?_
    exact hq _ _ (mq_mod.rf _ _ _) (Or.inr ⟨fun k => k c, rfl⟩)
end PM9
