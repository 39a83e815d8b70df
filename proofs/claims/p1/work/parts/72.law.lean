/-! THE LAW at p1: one call -/
section PL1
variable {h : mq_H}
def mq_Q0 (v : Option Value) (h : mq_H) : Prop := v = some (.int 1) ∧ mq_N h ≤ 600000 ∧ mq_Z h ≤ 7302249
theorem fr_M_fr {n z : Nat} {h h' : mq_H} (m : mq_mod 4 59 n z h h') (hN : 100 ≤ mq_N h) (F : fr_M h) : fr_M h' := by
  have q : ∀ b, 59 ≤ b → b < 100 → mq_I h' b = mq_I h b := fun b h1 h2 => (m.2.2.2.2 b (by omega) (by omega)).2.1
  obtain ⟨f1, f2, f3, f4, f5, f6, f7, f8, f9, f10, f11⟩ := F
  unfold fr_M
  rw [q 59 (by decide) (by decide), q 62 (by decide) (by decide), q 82 (by decide) (by decide), q 76 (by decide) (by decide)]
  exact ⟨f1, f2, f3, f4, f5, f6, f7, f8, f9, f10, rfl⟩
theorem lw_fin (hN : mq_N h ≤ 600000) (hZ : mq_Z h ≤ 7302249) : mq_At mq_G (mq_tT 8) 231 1147 [some (.retAddr 0), some (.retAddr 4), some (.retAddr 59), some (.int 0)] [] h mq_Q0 := by
  apply mq_go 60 []
  refine gq_i rfl ?_
  refine bq_t (by decide) ?_
  refine gq_i rfl ?_
  exact ⟨rfl, hN, hZ⟩
theorem e_un {v r s : Int32} (h1 : r = v) (h2 : s = v) : r = s := h1.trans h2.symm
theorem lw_c0 (FC : fr_C h) (FM : fr_M h) (hZ : mq_Z h ≤ 34912) : mq_At mq_G (mq_tT 8) 231 148 [some (.retAddr 0), some (.retAddr 4), some (.retAddr 59), some (.int 0)] [] h mq_Q0 := by
  have hN : mq_N h = 100 := FC.2.2.2.2.2.2.2.2.2.2.1
  apply mq_go 120 [1147]
  refine gq_i rfl ?_
  refine f_today FC (fun r h1 m s => ?_)
  have e0 : mq_I h1 0 = mq_I h 0 := (m.2.2.2.2 0 (by omega) (by decide)).2.1
  refine gq_i rfl ?_
  refine m_today (fr_M_fr m (by omega) FM) (fun r2 h2 m2 s2 => ?_)
  (try rw [e0] at s2)
  refine bq_t (sp_b_un s s2) ?_
  exact lw_fin (by have := m.2.1; have := m2.2.1; omega) (by have := m.2.2.2.1; have := m2.2.2.2.1; omega)
theorem lw_c1 (FC : fr_C h) (FM : fr_M h) (hZ : mq_Z h ≤ 34912) : mq_At mq_G (mq_tT 8) 231 171 [some (.retAddr 0), some (.retAddr 4), some (.retAddr 59), some (.int 0)] [] h mq_Q0 := by
  have hN : mq_N h = 100 := FC.2.2.2.2.2.2.2.2.2.2.1
  apply mq_go 120 [1147]
  refine gq_i rfl ?_
  refine f_holiday FC (fun r h1 m s => ?_)
  have e0 : mq_I h1 0 = mq_I h 0 := (m.2.2.2.2 0 (by omega) (by decide)).2.1
  refine gq_i rfl ?_
  refine m_holiday (fr_M_fr m (by omega) FM) (fun r2 h2 m2 s2 => ?_)
  (try rw [e0] at s2)
  refine bq_t (sp_b_un s s2) ?_
  exact lw_fin (by have := m.2.1; have := m2.2.1; omega) (by have := m.2.2.2.1; have := m2.2.2.2.1; omega)
theorem lw_c2 (FC : fr_C h) (FM : fr_M h) (hZ : mq_Z h ≤ 34912) : mq_At mq_G (mq_tT 8) 231 194 [some (.retAddr 0), some (.retAddr 4), some (.retAddr 59), some (.int 0)] [] h mq_Q0 := by
  have hN : mq_N h = 100 := FC.2.2.2.2.2.2.2.2.2.2.1
  apply mq_go 120 [1147]
  refine gq_i rfl ?_
  refine gq_i rfl ?_
  refine f_place FC (fun r h1 m s => ?_)
  have e0 : mq_I h1 0 = mq_I h 0 := (m.2.2.2.2 0 (by omega) (by decide)).2.1
  refine gq_i rfl ?_
  refine gq_i rfl ?_
  refine m_place (fr_M_fr m (by omega) FM) (fun r2 h2 m2 s2 => ?_)
  (try rw [e0] at s2)
  refine bq_t (sp_b_un s s2) ?_
  exact lw_fin (by have := m.2.1; have := m2.2.1; omega) (by have := m.2.2.2.1; have := m2.2.2.2.1; omega)
theorem lw_c3 (FC : fr_C h) (FM : fr_M h) (hZ : mq_Z h ≤ 34912) : mq_At mq_G (mq_tT 8) 231 227 [some (.retAddr 0), some (.retAddr 4), some (.retAddr 59), some (.int 0)] [] h mq_Q0 := by
  have hN : mq_N h = 100 := FC.2.2.2.2.2.2.2.2.2.2.1
  apply mq_go 120 [1147]
  refine gq_i rfl ?_
  refine gq_i rfl ?_
  refine gq_i rfl ?_
  refine gq_i rfl ?_
  refine bq_c (fun c => ?_) (fun c => ?_)
  · refine f_change FC (by decide) (fun r h1 m s => ?_)
    have e0 : mq_I h1 0 = mq_I h 0 := (m.2.2.2.2 0 (by omega) (by decide)).2.1
    refine gq_i rfl ?_
    refine gq_i rfl ?_
    refine gq_i rfl ?_
    refine gq_i rfl ?_
    refine bq_t (by rw [e0]; exact c) ?_
    refine m_change (fr_M_fr m (by omega) FM) (fun r2 h2 m2 s2 => ?_)
    (try rw [e0] at s2)
    refine bq_t (sp_b_un s s2) ?_
    exact lw_fin (by have := m.2.1; have := m2.2.1; omega) (by have := m.2.2.2.1; have := m2.2.2.2.1; omega)
  · refine f_change FC (by decide) (fun r h1 m s => ?_)
    have e0 : mq_I h1 0 = mq_I h 0 := (m.2.2.2.2 0 (by omega) (by decide)).2.1
    refine gq_i rfl ?_
    refine gq_i rfl ?_
    refine gq_i rfl ?_
    refine gq_i rfl ?_
    refine bq_f (by rw [e0]; exact c) ?_
    refine m_change (fr_M_fr m (by omega) FM) (fun r2 h2 m2 s2 => ?_)
    (try rw [e0] at s2)
    refine bq_t (sp_b_un s s2) ?_
    exact lw_fin (by have := m.2.1; have := m2.2.1; omega) (by have := m.2.2.2.1; have := m2.2.2.2.1; omega)
theorem lw_c4 (FC : fr_C h) (FM : fr_M h) (hZ : mq_Z h ≤ 34912) : mq_At mq_G (mq_tT 8) 231 296 [some (.retAddr 0), some (.retAddr 4), some (.retAddr 59), some (.int 0)] [] h mq_Q0 := by
  have hN : mq_N h = 100 := FC.2.2.2.2.2.2.2.2.2.2.1
  apply mq_go 120 [1147]
  refine gq_i rfl ?_
  refine gq_i rfl ?_
  refine gq_i rfl ?_
  refine gq_i rfl ?_
  refine gq_i rfl ?_
  refine f_feed FC (fun r h1 m s => ?_)
  have e0 : mq_I h1 0 = mq_I h 0 := (m.2.2.2.2 0 (by omega) (by decide)).2.1
  refine gq_i rfl ?_
  refine gq_i rfl ?_
  refine gq_i rfl ?_
  refine gq_i rfl ?_
  refine gq_i rfl ?_
  refine m_feed (fr_M_fr m (by omega) FM) (fun r2 h2 m2 s2 => ?_)
  refine bq_t (e_un s s2) ?_
  exact lw_fin (by have := m.2.1; have := m2.2.1; omega) (by have := m.2.2.2.1; have := m2.2.2.2.1; omega)
theorem lw_c5 (FC : fr_C h) (FM : fr_M h) (hZ : mq_Z h ≤ 34912) : mq_At mq_G (mq_tT 8) 231 359 [some (.retAddr 0), some (.retAddr 4), some (.retAddr 59), some (.int 0)] [] h mq_Q0 := by
  have hN : mq_N h = 100 := FC.2.2.2.2.2.2.2.2.2.2.1
  apply mq_go 120 [1147]
  refine gq_i rfl ?_
  refine f_end FC (fun r h1 m s => ?_)
  have e0 : mq_I h1 0 = mq_I h 0 := (m.2.2.2.2 0 (by omega) (by decide)).2.1
  refine gq_i rfl ?_
  refine m_end (fr_M_fr m (by omega) FM) (fun r2 h2 m2 s2 => ?_)
  (try rw [e0] at s2)
  refine bq_t (sp_b_un s s2) ?_
  exact lw_fin (by have := m.2.1; have := m2.2.1; omega) (by have := m.2.2.2.1; have := m2.2.2.2.1; omega)
theorem lw_c6 (FC : fr_C h) (FM : fr_M h) (hZ : mq_Z h ≤ 34912) : mq_At mq_G (mq_tT 8) 231 382 [some (.retAddr 0), some (.retAddr 4), some (.retAddr 59), some (.int 0)] [] h mq_Q0 := by
  have hN : mq_N h = 100 := FC.2.2.2.2.2.2.2.2.2.2.1
  apply mq_go 120 [1147]
  refine gq_i rfl ?_
  refine f_text FC (fun r h1 m s => ?_)
  have e0 : mq_I h1 0 = mq_I h 0 := (m.2.2.2.2 0 (by omega) (by decide)).2.1
  refine gq_i rfl ?_
  refine m_text (fr_M_fr m (by omega) FM) (fun r2 h2 m2 s2 => ?_)
  (try rw [e0] at s2)
  refine bq_t (sp_v_un s s2) ?_
  exact lw_fin (by have := m.2.1; have := m2.2.1; omega) (by have := m.2.2.2.1; have := m2.2.2.2.1; omega)
theorem lw_c7 (FC : fr_C h) (FM : fr_M h) (hZ : mq_Z h ≤ 34912) : mq_At mq_G (mq_tT 8) 231 405 [some (.retAddr 0), some (.retAddr 4), some (.retAddr 59), some (.int 0)] [] h mq_Q0 := by
  have hN : mq_N h = 100 := FC.2.2.2.2.2.2.2.2.2.2.1
  apply mq_go 120 [1147]
  refine gq_i rfl ?_
  refine f_fault FC (fun r h1 m s => ?_)
  have e0 : mq_I h1 0 = mq_I h 0 := (m.2.2.2.2 0 (by omega) (by decide)).2.1
  refine gq_i rfl ?_
  refine m_fault (fr_M_fr m (by omega) FM) (fun r2 h2 m2 s2 => ?_)
  (try rw [e0] at s2)
  refine bq_t (sp_v_un s s2) ?_
  exact lw_fin (by have := m.2.1; have := m2.2.1; omega) (by have := m.2.2.2.1; have := m2.2.2.2.1; omega)
theorem lw_c8 (FC : fr_C h) (FM : fr_M h) (hZ : mq_Z h ≤ 34912) : mq_At mq_G (mq_tT 8) 231 428 [some (.retAddr 0), some (.retAddr 4), some (.retAddr 59), some (.int 0)] [] h mq_Q0 := by
  have hN : mq_N h = 100 := FC.2.2.2.2.2.2.2.2.2.2.1
  apply mq_go 120 [1147]
  refine gq_i rfl ?_
  refine gq_i rfl ?_
  refine gq_i rfl ?_
  refine gq_i rfl ?_
  refine gq_i rfl ?_
  refine gq_i rfl ?_
  refine f_claim FC (fun r h1 m s => ?_)
  have e0 : mq_I h1 0 = mq_I h 0 := (m.2.2.2.2 0 (by omega) (by decide)).2.1
  refine gq_i rfl ?_
  refine gq_i rfl ?_
  refine gq_i rfl ?_
  refine gq_i rfl ?_
  refine gq_i rfl ?_
  refine gq_i rfl ?_
  refine m_claim (fr_M_fr m (by omega) FM) (fun r2 h2 m2 s2 => ?_)
  (try rw [e0] at s2)
  refine bq_t (sp_v_un s s2) ?_
  exact lw_fin (by have := m.2.1; have := m2.2.1; omega) (by have := m.2.2.2.1; have := m2.2.2.2.1; omega)
theorem lw_c9 (FC : fr_C h) (FM : fr_M h) (hZ : mq_Z h ≤ 34912) : mq_At mq_G (mq_tT 8) 231 503 [some (.retAddr 0), some (.retAddr 4), some (.retAddr 59), some (.int 0)] [] h mq_Q0 := by
  have hN : mq_N h = 100 := FC.2.2.2.2.2.2.2.2.2.2.1
  apply mq_go 120 [1147]
  refine gq_i rfl ?_
  refine gq_i rfl ?_
  refine gq_i rfl ?_
  refine gq_i rfl ?_
  refine f_fact FC (fun r h1 m s => ?_)
  have e0 : mq_I h1 0 = mq_I h 0 := (m.2.2.2.2 0 (by omega) (by decide)).2.1
  refine gq_i rfl ?_
  refine gq_i rfl ?_
  refine gq_i rfl ?_
  refine gq_i rfl ?_
  refine m_fact (fr_M_fr m (by omega) FM) (fun r2 h2 m2 s2 => ?_)
  refine bq_t (e_un s s2) ?_
  exact lw_fin (by have := m.2.1; have := m2.2.1; omega) (by have := m.2.2.2.1; have := m2.2.2.2.1; omega)
theorem lw_c10 (FC : fr_C h) (FM : fr_M h) (hZ : mq_Z h ≤ 34912) : mq_At mq_G (mq_tT 8) 231 556 [some (.retAddr 0), some (.retAddr 4), some (.retAddr 59), some (.int 0)] [] h mq_Q0 := by
  have hN : mq_N h = 100 := FC.2.2.2.2.2.2.2.2.2.2.1
  apply mq_go 120 [1147]
  refine gq_i rfl ?_
  refine gq_i rfl ?_
  refine gq_i rfl ?_
  refine f_doubt FC (fun r h1 m s => ?_)
  have e0 : mq_I h1 0 = mq_I h 0 := (m.2.2.2.2 0 (by omega) (by decide)).2.1
  refine gq_i rfl ?_
  refine gq_i rfl ?_
  refine gq_i rfl ?_
  refine m_doubt (fr_M_fr m (by omega) FM) (fun r2 h2 m2 s2 => ?_)
  refine bq_t (e_un s s2) ?_
  exact lw_fin (by have := m.2.1; have := m2.2.1; omega) (by have := m.2.2.2.1; have := m2.2.2.2.1; omega)
theorem lw_c11 (FC : fr_C h) (FM : fr_M h) (hZ : mq_Z h ≤ 34912) : mq_At mq_G (mq_tT 8) 231 599 [some (.retAddr 0), some (.retAddr 4), some (.retAddr 59), some (.int 0)] [] h mq_Q0 := by
  have hN : mq_N h = 100 := FC.2.2.2.2.2.2.2.2.2.2.1
  apply mq_go 120 [1147]
  refine gq_i rfl ?_
  refine f_last FC (fun r h1 m s => ?_)
  have e0 : mq_I h1 0 = mq_I h 0 := (m.2.2.2.2 0 (by omega) (by decide)).2.1
  refine gq_i rfl ?_
  refine m_last (fr_M_fr m (by omega) FM) (fun r2 h2 m2 s2 => ?_)
  refine bq_t (e_un s s2) ?_
  exact lw_fin (by have := m.2.1; have := m2.2.1; omega) (by have := m.2.2.2.1; have := m2.2.2.2.1; omega)
theorem lw_c12 (FC : fr_C h) (FM : fr_M h) (hZ : mq_Z h ≤ 34912) : mq_At mq_G (mq_tT 8) 231 622 [some (.retAddr 0), some (.retAddr 4), some (.retAddr 59), some (.int 0)] [] h mq_Q0 := by
  have hN : mq_N h = 100 := FC.2.2.2.2.2.2.2.2.2.2.1
  apply mq_go 120 [1147]
  refine gq_i rfl ?_
  refine gq_i rfl ?_
  refine gq_i rfl ?_
  refine f_step FC (fun r h1 m s => ?_)
  have e0 : mq_I h1 0 = mq_I h 0 := (m.2.2.2.2 0 (by omega) (by decide)).2.1
  refine gq_i rfl ?_
  refine gq_i rfl ?_
  refine gq_i rfl ?_
  refine m_step (fr_M_fr m (by omega) FM) (fun r2 h2 m2 s2 => ?_)
  refine bq_t (e_un s s2) ?_
  exact lw_fin (by have := m.2.1; have := m2.2.1; omega) (by have := m.2.2.2.1; have := m2.2.2.2.1; omega)
theorem lw_c13 (FC : fr_C h) (FM : fr_M h) (hZ : mq_Z h ≤ 34912) : mq_At mq_G (mq_tT 8) 231 665 [some (.retAddr 0), some (.retAddr 4), some (.retAddr 59), some (.int 0)] [] h mq_Q0 := by
  have hN : mq_N h = 100 := FC.2.2.2.2.2.2.2.2.2.2.1
  apply mq_go 120 [1147]
  refine gq_i rfl ?_
  refine gq_i rfl ?_
  refine f_span FC (fun r h1 m s => ?_)
  have e0 : mq_I h1 0 = mq_I h 0 := (m.2.2.2.2 0 (by omega) (by decide)).2.1
  refine gq_i rfl ?_
  refine gq_i rfl ?_
  refine m_span (fr_M_fr m (by omega) FM) (fun r2 h2 m2 s2 => ?_)
  refine bq_t (e_un s s2) ?_
  exact lw_fin (by have := m.2.1; have := m2.2.1; omega) (by have := m.2.2.2.1; have := m2.2.2.2.1; omega)
theorem lw_c14 (FC : fr_C h) (FM : fr_M h) (hZ : mq_Z h ≤ 34912) : mq_At mq_G (mq_tT 8) 231 698 [some (.retAddr 0), some (.retAddr 4), some (.retAddr 59), some (.int 0)] [] h mq_Q0 := by
  have hN : mq_N h = 100 := FC.2.2.2.2.2.2.2.2.2.2.1
  apply mq_go 120 [1147]
  refine gq_i rfl ?_
  refine gq_i rfl ?_
  refine f_changed FC (fun r h1 m s => ?_)
  have e0 : mq_I h1 0 = mq_I h 0 := (m.2.2.2.2 0 (by omega) (by decide)).2.1
  refine gq_i rfl ?_
  refine gq_i rfl ?_
  refine m_changed (fr_M_fr m (by omega) FM) (fun r2 h2 m2 s2 => ?_)
  refine bq_t (e_un s s2) ?_
  exact lw_fin (by have := m.2.1; have := m2.2.1; omega) (by have := m.2.2.2.1; have := m2.2.2.2.1; omega)
theorem lw_c15 (FC : fr_C h) (FM : fr_M h) (hZ : mq_Z h ≤ 34912) : mq_At mq_G (mq_tT 8) 231 731 [some (.retAddr 0), some (.retAddr 4), some (.retAddr 59), some (.int 0)] [] h mq_Q0 := by
  have hN : mq_N h = 100 := FC.2.2.2.2.2.2.2.2.2.2.1
  apply mq_go 120 [1147]
  refine gq_i rfl ?_
  refine gq_i rfl ?_
  refine gq_i rfl ?_
  refine gq_i rfl ?_
  refine gq_i rfl ?_
  refine gq_i rfl ?_
  refine gq_i rfl ?_
  refine f_act FC (fun r h1 m s => ?_)
  have e0 : mq_I h1 0 = mq_I h 0 := (m.2.2.2.2 0 (by omega) (by decide)).2.1
  refine gq_i rfl ?_
  refine gq_i rfl ?_
  refine gq_i rfl ?_
  refine gq_i rfl ?_
  refine gq_i rfl ?_
  refine gq_i rfl ?_
  refine gq_i rfl ?_
  refine m_act (fr_M_fr m (by omega) FM) (fun r2 h2 m2 s2 => ?_)
  (try rw [e0] at s2)
  refine bq_t (sp_b_un s s2) ?_
  exact lw_fin (by have := m.2.1; have := m2.2.1; omega) (by have := m.2.2.2.1; have := m2.2.2.2.1; omega)
theorem lw_c16 (FC : fr_C h) (FM : fr_M h) (hZ : mq_Z h ≤ 34912) : mq_At mq_G (mq_tT 8) 231 818 [some (.retAddr 0), some (.retAddr 4), some (.retAddr 59), some (.int 0)] [] h mq_Q0 := by
  have hN : mq_N h = 100 := FC.2.2.2.2.2.2.2.2.2.2.1
  apply mq_go 120 [1147]
  refine gq_i rfl ?_
  refine gq_i rfl ?_
  refine bq_c (fun c => ?_) (fun c => ?_)
  · refine f_want FC (fun r h1 m s => ?_)
    have e0 : mq_I h1 0 = mq_I h 0 := (m.2.2.2.2 0 (by omega) (by decide)).2.1
    refine gq_i rfl ?_
    refine gq_i rfl ?_
    refine bq_t (by rw [e0]; exact c) ?_
    refine m_want (fr_M_fr m (by omega) FM) (fun r2 h2 m2 s2 => ?_)
    refine bq_t (e_un s s2) ?_
    exact lw_fin (by have := m.2.1; have := m2.2.1; omega) (by have := m.2.2.2.1; have := m2.2.2.2.1; omega)
  · refine f_want FC (fun r h1 m s => ?_)
    have e0 : mq_I h1 0 = mq_I h 0 := (m.2.2.2.2 0 (by omega) (by decide)).2.1
    refine gq_i rfl ?_
    refine gq_i rfl ?_
    refine bq_f (by rw [e0]; exact c) ?_
    refine m_want (fr_M_fr m (by omega) FM) (fun r2 h2 m2 s2 => ?_)
    refine bq_t (e_un s s2) ?_
    exact lw_fin (by have := m.2.1; have := m2.2.1; omega) (by have := m.2.2.2.1; have := m2.2.2.2.1; omega)
theorem lw_c17 (FC : fr_C h) (FM : fr_M h) (hZ : mq_Z h ≤ 34912) : mq_At mq_G (mq_tT 8) 231 867 [some (.retAddr 0), some (.retAddr 4), some (.retAddr 59), some (.int 0)] [] h mq_Q0 := by
  have hN : mq_N h = 100 := FC.2.2.2.2.2.2.2.2.2.2.1
  apply mq_go 120 [1147]
  refine gq_i rfl ?_
  refine gq_i rfl ?_
  refine f_cheapest FC (fun r h1 m s => ?_)
  have e0 : mq_I h1 0 = mq_I h 0 := (m.2.2.2.2 0 (by omega) (by decide)).2.1
  refine gq_i rfl ?_
  refine gq_i rfl ?_
  refine m_cheapest (fr_M_fr m (by omega) FM) (fun r2 h2 m2 s2 => ?_)
  (try rw [e0] at s2)
  refine bq_t (sp_v_un s s2) ?_
  exact lw_fin (by have := m.2.1; have := m2.2.1; omega) (by have := m.2.2.2.1; have := m2.2.2.2.1; omega)
theorem lw_c18 (FC : fr_C h) (FM : fr_M h) (hZ : mq_Z h ≤ 34912) : mq_At mq_G (mq_tT 8) 231 900 [some (.retAddr 0), some (.retAddr 4), some (.retAddr 59), some (.int 0)] [] h mq_Q0 := by
  have hN : mq_N h = 100 := FC.2.2.2.2.2.2.2.2.2.2.1
  apply mq_go 120 [1147]
  refine gq_i rfl ?_
  refine gq_i rfl ?_
  refine gq_i rfl ?_
  refine f_worth FC (fun r h1 m s => ?_)
  have e0 : mq_I h1 0 = mq_I h 0 := (m.2.2.2.2 0 (by omega) (by decide)).2.1
  refine gq_i rfl ?_
  refine gq_i rfl ?_
  refine gq_i rfl ?_
  refine m_worth (fr_M_fr m (by omega) FM) (fun r2 h2 m2 s2 => ?_)
  (try rw [e0] at s2)
  refine bq_t (sp_v_un s s2) ?_
  exact lw_fin (by have := m.2.1; have := m2.2.1; omega) (by have := m.2.2.2.1; have := m2.2.2.2.1; omega)
theorem lw_c19 (FC : fr_C h) (FM : fr_M h) (hZ : mq_Z h ≤ 34912) : mq_At mq_G (mq_tT 8) 231 943 [some (.retAddr 0), some (.retAddr 4), some (.retAddr 59), some (.int 0)] [] h mq_Q0 := by
  have hN : mq_N h = 100 := FC.2.2.2.2.2.2.2.2.2.2.1
  apply mq_go 120 [1147]
  refine gq_i rfl ?_
  refine gq_i rfl ?_
  refine f_one FC (fun r h1 m s => ?_)
  have e0 : mq_I h1 0 = mq_I h 0 := (m.2.2.2.2 0 (by omega) (by decide)).2.1
  refine gq_i rfl ?_
  refine gq_i rfl ?_
  refine m_one (fr_M_fr m (by omega) FM) (fun r2 h2 m2 s2 => ?_)
  (try rw [e0] at s2)
  refine bq_t (sp_v_un s s2) ?_
  exact lw_fin (by have := m.2.1; have := m2.2.1; omega) (by have := m.2.2.2.1; have := m2.2.2.2.1; omega)
theorem lw_c20 (FC : fr_C h) (FM : fr_M h) (hZ : mq_Z h ≤ 34912) : mq_At mq_G (mq_tT 8) 231 976 [some (.retAddr 0), some (.retAddr 4), some (.retAddr 59), some (.int 0)] [] h mq_Q0 := by
  have hN : mq_N h = 100 := FC.2.2.2.2.2.2.2.2.2.2.1
  apply mq_go 120 [1147]
  refine gq_i rfl ?_
  refine f_pay FC (fun r h1 m s => ?_)
  have e0 : mq_I h1 0 = mq_I h 0 := (m.2.2.2.2 0 (by omega) (by decide)).2.1
  refine gq_i rfl ?_
  refine m_pay (fr_M_fr m (by omega) FM) (fun r2 h2 m2 s2 => ?_)
  refine bq_t (e_un s s2) ?_
  exact lw_fin (by have := m.2.1; have := m2.2.1; omega) (by have := m.2.2.2.1; have := m2.2.2.2.1; omega)
theorem lw_c21 (FC : fr_C h) (FM : fr_M h) (hZ : mq_Z h ≤ 34912) : mq_At mq_G (mq_tT 8) 231 999 [some (.retAddr 0), some (.retAddr 4), some (.retAddr 59), some (.int 0)] [] h mq_Q0 := by
  have hN : mq_N h = 100 := FC.2.2.2.2.2.2.2.2.2.2.1
  apply mq_go 120 [1147]
  refine gq_i rfl ?_
  refine gq_i rfl ?_
  refine gq_i rfl ?_
  refine f_contest FC (fun r h1 m s => ?_)
  have e0 : mq_I h1 0 = mq_I h 0 := (m.2.2.2.2 0 (by omega) (by decide)).2.1
  refine gq_i rfl ?_
  refine gq_i rfl ?_
  refine gq_i rfl ?_
  refine m_contest (fr_M_fr m (by omega) FM) (fun r2 h2 m2 s2 => ?_)
  (try rw [e0] at s2)
  refine bq_t (sp_v_un s s2) ?_
  exact lw_fin (by have := m.2.1; have := m2.2.1; omega) (by have := m.2.2.2.1; have := m2.2.2.2.1; omega)
theorem lw_c22 (FC : fr_C h) (FM : fr_M h) (hZ : mq_Z h ≤ 34912) : mq_At mq_G (mq_tT 8) 231 1042 [some (.retAddr 0), some (.retAddr 4), some (.retAddr 59), some (.int 0)] [] h mq_Q0 := by
  have hN : mq_N h = 100 := FC.2.2.2.2.2.2.2.2.2.2.1
  apply mq_go 120 [1147]
  refine gq_i rfl ?_
  refine gq_i rfl ?_
  refine gq_i rfl ?_
  refine f_beside FC (fun r h1 m s => ?_)
  have e0 : mq_I h1 0 = mq_I h 0 := (m.2.2.2.2 0 (by omega) (by decide)).2.1
  refine gq_i rfl ?_
  refine gq_i rfl ?_
  refine gq_i rfl ?_
  refine m_beside (fr_M_fr m (by omega) FM) (fun r2 h2 m2 s2 => ?_)
  (try rw [e0] at s2)
  refine bq_t (sp_v_un s s2) ?_
  exact lw_fin (by have := m.2.1; have := m2.2.1; omega) (by have := m.2.2.2.1; have := m2.2.2.2.1; omega)
theorem lw_c23 (FC : fr_C h) (FM : fr_M h) (hZ : mq_Z h ≤ 34912) : mq_At mq_G (mq_tT 8) 231 1085 [some (.retAddr 0), some (.retAddr 4), some (.retAddr 59), some (.int 0)] [] h mq_Q0 := by
  have hN : mq_N h = 100 := FC.2.2.2.2.2.2.2.2.2.2.1
  apply mq_go 120 [1147]
  refine gq_i rfl ?_
  refine bq_c (fun c => ?_) (fun c => ?_)
  · refine f_image FC (fun r h1 m s => ?_)
    have e0 : mq_I h1 0 = mq_I h 0 := (m.2.2.2.2 0 (by omega) (by decide)).2.1
    refine gq_i rfl ?_
    refine bq_t (by rw [e0]; exact c) ?_
    refine m_image (fr_M_fr m (by omega) FM) (by decide) (fun r2 h2 m2 s2 => ?_)
    (try rw [e0] at s2)
    refine bq_t (sp_b_un s s2) ?_
    exact lw_fin (by have := m.2.1; have := m2.2.1; omega) (by have := m.2.2.2.1; have := m2.2.2.2.1; omega)
  · refine f_image FC (fun r h1 m s => ?_)
    have e0 : mq_I h1 0 = mq_I h 0 := (m.2.2.2.2 0 (by omega) (by decide)).2.1
    refine gq_i rfl ?_
    refine bq_f (by rw [e0]; exact c) ?_
    refine m_image (fr_M_fr m (by omega) FM) (by decide) (fun r2 h2 m2 s2 => ?_)
    (try rw [e0] at s2)
    refine bq_t (sp_b_un s s2) ?_
    exact lw_fin (by have := m.2.1; have := m2.2.1; omega) (by have := m.2.2.2.1; have := m2.2.2.2.1; omega)
theorem lw_c24 (FC : fr_C h) (FM : fr_M h) (hZ : mq_Z h ≤ 34912) : mq_At mq_G (mq_tT 8) 231 1124 [some (.retAddr 0), some (.retAddr 4), some (.retAddr 59), some (.int 0)] [] h mq_Q0 := by
  have hN : mq_N h = 100 := FC.2.2.2.2.2.2.2.2.2.2.1
  apply mq_go 120 [1147]
  refine gq_i rfl ?_
  refine f_look FC (fun r h1 m s => ?_)
  have e0 : mq_I h1 0 = mq_I h 0 := (m.2.2.2.2 0 (by omega) (by decide)).2.1
  refine gq_i rfl ?_
  refine m_look (fr_M_fr m (by omega) FM) (fun r2 h2 m2 s2 => ?_)
  (try rw [e0] at s2)
  refine bq_t (sp_v_un s s2) ?_
  exact lw_fin (by have := m.2.1; have := m2.2.1; omega) (by have := m.2.2.2.1; have := m2.2.2.2.1; omega)
end PL1
