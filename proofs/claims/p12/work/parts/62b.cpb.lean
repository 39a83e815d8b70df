/-! THE CLASS on a fresh object: image -/
section PC14
variable {lL : Nat} {h : mq_H} {Q : Option Value → mq_H → Prop}
theorem gE_fr {h h' : mq_H} (hr : mq_R h' 13 = mq_R h 13) (hs : ∀ j q, mq_R h 13 j = some q → mq_sh h' q = mq_sh h q) (k : mq_gE h 13 0 8 6 = true) : mq_gE h' 13 0 8 6 = true := by
  unfold mq_gE at *
  rw [List.all_eq_true] at *
  intro i hi
  have := k i hi
  rw [hr]
  cases e : mq_R h 13 (0 + i) with
  | none => rfl
  | some q =>
    rw [e] at this
    show mq_isO (mq_sh h' q) 6 = true
    rw [hs _ q e]
    exact this
theorem c_cpB {b : Nat} (k : ok_B h b) (h100 : 100 ≤ b) (hN : b + 30 ≤ mq_N h) (hg : mq_gE h 13 0 8 6 = true) (hq : ∀ h', mq_mod b (b + 30) 0 0 h h' → mq_sh h' = mq_sh h → (∀ c, c ≠ b + 8 → mq_R h' c = mq_R h c) → Q none h') : mq_Call mq_G (mq_tT lL) 7 [.ref b, .retAddr 5] h Q := by
  obtain ⟨s0, r1, r2, r3, kP, kC, kA⟩ := k
  apply mq_enter 60 [8]
  refine gq_i (by rw [s0]; rfl) ?_
  obtain ⟨h1, e1⟩ : ∃ H, H = mq_setI h b 0 (mq_I h 5 0) := ⟨_, rfl⟩
  show mq_At mq_G (mq_tT lL) 7 8 [some (.ref b), some (.retAddr 5)] [] (mq_setI h b 0 (mq_I h 5 0)) Q
  rw [← e1]
  have u1 : mq_sh h1 = mq_sh h := by rw [e1]; rfl
  have v1 : mq_R h1 = mq_R h := by rw [e1]; rfl
  have m1 : mq_mod b (b + 30) 0 0 h h1 := by rw [e1]; exact (mq_mod.rf 0 0 _).sI (Or.inl ⟨by omega, by omega⟩) _ _
  have hg1 : mq_gE h1 13 0 8 6 = true := by unfold mq_gE; rw [u1, v1]; exact hg
  have kP1 : ok_P h1 (b + 1) := by unfold ok_P; rw [u1, v1]; exact kP
  apply mq_go 60 []
  refine gq_i (by rw [u1, s0]; rfl) ?_
  refine oq_s (by rw [v1]; exact r1) ?_
  refine gq_i (by rw [kP1.1]; rfl) ?_
  refine c_cpP kP1 (by omega) hg1 (fun h2 m2 u2 v2 => ?_)
  refine gq_i (by rw [u2, u1, s0]; rfl) ?_
  refine oq_s (by rw [v2 b (by omega), v1]; exact r2) ?_
  have kC2 : ok_C h2 (b + 12) := by unfold ok_C; rw [u2, u1, v2 (b + 12) (by omega), v1]; exact kC
  refine gq_i (by rw [kC2.1]; rfl) ?_
  refine c_cpC kC2 (by omega) (fun h3 m3 u3 v3 => ?_)
  refine gq_i (by rw [u3, u2, u1, s0]; rfl) ?_
  refine oq_s (by rw [v3, v2 b (by omega), v1]; exact r3) ?_
  have kA3 : ok_A h3 (b + 25) := by unfold ok_A; rw [u3, u2, u1, v3, v2 (b + 25) (by omega), v1]; exact kA
  refine gq_i (by rw [kA3.1]; rfl) ?_
  refine c_cpA kA3 (by omega) (fun h4 m4 u4 v4 => ?_)
  refine hq h4 ?_ (u4.trans (u3.trans (u2.trans u1))) (fun c hc => (congrFun (v4.trans v3) c).trans ((v2 c (by omega)).trans (congrFun v1 c)))
  refine mq_mod.tr (n1 := 0) (z1 := 0) (n2 := 0) (z2 := 0) m1 (mq_mod.tr (n1 := 0) (z1 := 0) (n2 := 0) (z2 := 0) (m2.wd (by omega) (by omega) (Nat.le_refl _) (Nat.le_refl _)) (mq_mod.tr (n1 := 0) (z1 := 0) (n2 := 0) (z2 := 0) (m3.wd (by omega) (by omega) (Nat.le_refl _) (Nat.le_refl _)) (m4.wd (by omega) (by omega) (Nat.le_refl _) (Nat.le_refl _)) (by decide) (by decide)) (by decide) (by decide)) (by decide) (by decide)
end PC14
