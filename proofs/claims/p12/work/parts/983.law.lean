/-! THE LAW, every call: the invariant, and what ties class and reference -/
section PL0
def y_SE : Nat := y_k_ct ||| y_k_fc ||| y_k_fd ||| y_k_iv
def y_E : y_T := fun v w => y_e_ct v w ∧ y_e_fc v w ∧ y_e_fd v w ∧ y_e_iv v w
theorem y_FE : y_F y_E y_SE := fun v v2 w w2 hv hw e => ⟨(y_f_ct.up (M := y_SE) (by decide)) v v2 w w2 hv hw e.1, (y_f_fc.up (M := y_SE) (by decide)) v v2 w w2 hv hw e.2.1, (y_f_fd.up (M := y_SE) (by decide)) v v2 w w2 hv hw e.2.2.1, (y_f_iv.up (M := y_SE) (by decide)) v v2 w w2 hv hw e.2.2.2⟩
def y_G (h : mq_H) : Prop := y_R y_E h
end PL0
section PJ
variable {lL : Nat} {h h1 h2 : mq_H}
theorem y_x_claim {p k s d e u r1 r2 : Int32} (R : y_G h) (I : ck_Iv x_X h) (I1 : ck_Iv x_X h1) (m1 : ck_md kc_111.2.2 h h1) (s1 : y_pc_claim p k s d e u h (some (.int r1)) h1) (m2 : ck_md kc_147.2.2 h1 h2) (s2 : y_pm_claim p k s d e u h1 (some (.int r2)) h2) : r1 = r2 ∧ y_G h2 := by
  have E0 : y_E (mq_I h) (mq_I h) := R.1
  have SV : y_S y_E h2 := (R.2.md y_FE m1 (by decide) (by decide) (by decide) I).md y_FE m2 (by decide) (by decide) (by decide) I1
  have J := y_j_claim E0.1 I m1 s1 m2 s2
  have er := J.1
  exact ⟨er, ⟨J.2.1, J.2.2 E0.2.1, y_f_fd.m2 m1 m2 (by decide) (by decide) E0.2.2.1, y_v_claim E0.2.2.2 I m1 m2 s2⟩, SV⟩
theorem y_x_fact {c s f t r1 r2 : Int32} (R : y_G h) (I : ck_Iv x_X h) (I1 : ck_Iv x_X h1) (m1 : ck_md kc_112.2.2 h h1) (s1 : y_pc_fact c s f t h (some (.int r1)) h1) (m2 : ck_md kc_148.2.2 h1 h2) (s2 : y_pm_fact c s f t h1 (some (.int r2)) h2) : r1 = r2 ∧ y_G h2 := by
  have E0 : y_E (mq_I h) (mq_I h) := R.1
  have SV : y_S y_E h2 := (R.2.md y_FE m1 (by decide) (by decide) (by decide) I).md y_FE m2 (by decide) (by decide) (by decide) I1
  have J := y_j_fact E0.1 E0.2.1 I m1 s1 m2 s2
  have er := J.1
  exact ⟨er, ⟨y_f_ct.m2 m1 m2 (by decide) (by decide) E0.1, J.2.1, J.2.2 E0.2.2.1, y_v_fact E0.2.2.2 I m1 m2 s2⟩, SV⟩
theorem y_x_doubt {c f x r1 r2 : Int32} (R : y_G h) (I : ck_Iv x_X h) (I1 : ck_Iv x_X h1) (m1 : ck_md kc_113.2.2 h h1) (s1 : y_pc_doubt c f x h (some (.int r1)) h1) (m2 : ck_md kc_150.2.2 h1 h2) (s2 : y_pm_doubt c f x h1 (some (.int r2)) h2) : r1 = r2 ∧ y_G h2 := by
  have E0 : y_E (mq_I h) (mq_I h) := R.1
  have SV : y_S y_E h2 := (R.2.md y_FE m1 (by decide) (by decide) (by decide) I).md y_FE m2 (by decide) (by decide) (by decide) I1
  have J := y_j_doubt E0.1 E0.2.1 E0.2.2.1 E0.2.2.2 I m1 s1 m2 s2
  have er := J.1
  exact ⟨er, ⟨y_f_ct.m2 m1 m2 (by decide) (by decide) E0.1, y_f_fc.m2 m1 m2 (by decide) (by decide) E0.2.1, J.2.1, J.2.2⟩, SV⟩
theorem y_x_image {x r1 r2 : Int32} (R : y_G h) (s1 : y_ci x h r1 h1) (s2 : y_mi x h1 r2 h2) : r1 = r2 ∧ y_G h2 := y_image y_FE (by decide) (by decide) R s1 s2
end PJ
section PL
variable {lL i : Nat} {h : mq_H} {Q : Option Value → mq_H → Prop}
def x_R0 (h h' : mq_H) : Prop := ck_Iv x_X h' ∧ mq_N h' ≤ mq_N h + 100 ∧ mq_Z h' ≤ mq_Z h + 20000 ∧ mq_I h' 0 = mq_I h 0
theorem x_R0.md {M : Nat} {h h' : mq_H} (I : ck_Iv x_X h') (m : ck_md M h h') (b0 : Nat.testBit M 0 = false) : x_R0 h h' := ⟨I, by rw [m.1]; omega, by rw [m.2.1]; omega, by funext k; exact m.2.2.2.2 0 k b0⟩
theorem y_G.md {M : Nat} {h h2 : mq_H} (m : ck_md M h h2) (b0 : Nat.testBit M 0 = false) (b1 : Nat.testBit M (ck_lc 59 69) = false) (b2 : Nat.testBit M (ck_lca 99) = false) (d : Nat.beq (Nat.land M y_SE) 0 = true) (I : ck_Iv x_X h) (H : y_G h) : y_G h2 := y_R.md y_FE m b0 b1 b2 d I H
theorem w_103 (I : ck_Iv x_X h) {x1 : Int32} (hq : ∀ (r : Int32) h', x_R0 h h' → (y_G h → y_G h') → Q (some (.int r)) h') : mq_Call mq_G (mq_tT lL) 103 [.retAddr 4, .int x1] h Q := by
  refine mq_Call.mono (kv_103 h _ I ⟨rfl, ⟨_, rfl, ci_rng _⟩, trivial⟩) (fun v h2 ⟨I2, m2, r, er, _, _⟩ => ?_)
  subst er
  exact hq r h2 (x_R0.md I2 m2 (by decide)) (y_G.md m2 (by decide) (by decide) (by decide) (by decide) I)
theorem w_141 (I : ck_Iv x_X h) {x1 : Int32} (hq : ∀ (r : Int32) h', x_R0 h h' → (y_G h → y_G h') → Q (some (.int r)) h') : mq_Call mq_G (mq_tT lL) 141 [.retAddr 59, .int x1] h Q := by
  refine mq_Call.mono (kv_141 h _ I ⟨rfl, ⟨_, rfl, ci_rng _⟩, trivial⟩) (fun v h2 ⟨I2, m2, r, er, _, _⟩ => ?_)
  subst er
  exact hq r h2 (x_R0.md I2 m2 (by decide)) (y_G.md m2 (by decide) (by decide) (by decide) (by decide) I)
theorem lw_c0 (I : ck_Iv x_X h) (R : y_G h) (J0 : mq_inb (nI i) lL = true) (J : ∀ j, j < 8 → mq_inb (nI i + nI j) lL = true) (K : ∀ h2, ck_Iv x_X h2 → y_G h2 → mq_N h2 ≤ mq_N h + 200 → mq_Z h2 ≤ mq_Z h + 40000 → mq_At mq_G (mq_tT lL) 232 1147 [some (.retAddr 0), some (.retAddr 4), some (.retAddr 59), some (.int (nI i))] [] h2 Q) : mq_At mq_G (mq_tT lL) 232 148 [some (.retAddr 0), some (.retAddr 4), some (.retAddr 59), some (.int (nI i))] [] h Q := by
  apply mq_go 150 [1147]
  refine gq_i (J 1 (by omega)) ?_
  refine w_103 I (fun r1 h1 R1 s1 => ?_)
  refine gq_i (J 1 (by omega)) ?_
  refine w_141 R1.1 (fun r2 h2 R2 s2 => ?_)
  exact K h2 R2.1 (s2 (s1 R)) (by have := R1.2.1; have := R2.2.1; omega) (by have := R1.2.2.1; have := R2.2.2.1; omega)
theorem w_104 (I : ck_Iv x_X h) {x1 : Int32} (hq : ∀ (r : Int32) h', x_R0 h h' → (y_G h → y_G h') → Q (some (.int r)) h') : mq_Call mq_G (mq_tT lL) 104 [.retAddr 4, .int x1] h Q := by
  refine mq_Call.mono (kv_104 h _ I ⟨rfl, ⟨_, rfl, ci_rng _⟩, trivial⟩) (fun v h2 ⟨I2, m2, r, er, _, _⟩ => ?_)
  subst er
  exact hq r h2 (x_R0.md I2 m2 (by decide)) (y_G.md m2 (by decide) (by decide) (by decide) (by decide) I)
theorem w_142 (I : ck_Iv x_X h) {x1 : Int32} (hq : ∀ (r : Int32) h', x_R0 h h' → (y_G h → y_G h') → Q (some (.int r)) h') : mq_Call mq_G (mq_tT lL) 142 [.retAddr 59, .int x1] h Q := by
  refine mq_Call.mono (kv_142 h _ I ⟨rfl, ⟨_, rfl, ci_rng _⟩, trivial⟩) (fun v h2 ⟨I2, m2, r, er, _, _⟩ => ?_)
  subst er
  exact hq r h2 (x_R0.md I2 m2 (by decide)) (y_G.md m2 (by decide) (by decide) (by decide) (by decide) I)
theorem lw_c1 (I : ck_Iv x_X h) (R : y_G h) (J0 : mq_inb (nI i) lL = true) (J : ∀ j, j < 8 → mq_inb (nI i + nI j) lL = true) (K : ∀ h2, ck_Iv x_X h2 → y_G h2 → mq_N h2 ≤ mq_N h + 200 → mq_Z h2 ≤ mq_Z h + 40000 → mq_At mq_G (mq_tT lL) 232 1147 [some (.retAddr 0), some (.retAddr 4), some (.retAddr 59), some (.int (nI i))] [] h2 Q) : mq_At mq_G (mq_tT lL) 232 171 [some (.retAddr 0), some (.retAddr 4), some (.retAddr 59), some (.int (nI i))] [] h Q := by
  apply mq_go 150 [1147]
  refine gq_i (J 1 (by omega)) ?_
  refine w_104 I (fun r1 h1 R1 s1 => ?_)
  refine gq_i (J 1 (by omega)) ?_
  refine w_142 R1.1 (fun r2 h2 R2 s2 => ?_)
  exact K h2 R2.1 (s2 (s1 R)) (by have := R1.2.1; have := R2.2.1; omega) (by have := R1.2.2.1; have := R2.2.2.1; omega)
theorem w_105 (I : ck_Iv x_X h) {x1 x2 : Int32} (hq : ∀ (r : Int32) h', x_R0 h h' → (y_G h → y_G h') → Q (some (.int r)) h') : mq_Call mq_G (mq_tT lL) 105 [.retAddr 4, .int x1, .int x2] h Q := by
  refine mq_Call.mono (kv_105 h _ I ⟨rfl, ⟨_, rfl, ci_rng _⟩, ⟨_, rfl, ci_rng _⟩, trivial⟩) (fun v h2 ⟨I2, m2, r, er, _, _⟩ => ?_)
  subst er
  exact hq r h2 (x_R0.md I2 m2 (by decide)) (y_G.md m2 (by decide) (by decide) (by decide) (by decide) I)
theorem w_144 (I : ck_Iv x_X h) {x1 x2 : Int32} (hq : ∀ (r : Int32) h', x_R0 h h' → (y_G h → y_G h') → Q (some (.int r)) h') : mq_Call mq_G (mq_tT lL) 144 [.retAddr 59, .int x1, .int x2] h Q := by
  refine mq_Call.mono (kv_144 h _ I ⟨rfl, ⟨_, rfl, ci_rng _⟩, ⟨_, rfl, ci_rng _⟩, trivial⟩) (fun v h2 ⟨I2, m2, r, er, _, _⟩ => ?_)
  subst er
  exact hq r h2 (x_R0.md I2 m2 (by decide)) (y_G.md m2 (by decide) (by decide) (by decide) (by decide) I)
theorem lw_c2 (I : ck_Iv x_X h) (R : y_G h) (J0 : mq_inb (nI i) lL = true) (J : ∀ j, j < 8 → mq_inb (nI i + nI j) lL = true) (K : ∀ h2, ck_Iv x_X h2 → y_G h2 → mq_N h2 ≤ mq_N h + 200 → mq_Z h2 ≤ mq_Z h + 40000 → mq_At mq_G (mq_tT lL) 232 1147 [some (.retAddr 0), some (.retAddr 4), some (.retAddr 59), some (.int (nI i))] [] h2 Q) : mq_At mq_G (mq_tT lL) 232 194 [some (.retAddr 0), some (.retAddr 4), some (.retAddr 59), some (.int (nI i))] [] h Q := by
  apply mq_go 150 [1147]
  refine gq_i (J 1 (by omega)) ?_
  refine gq_i (J 2 (by omega)) ?_
  refine w_105 I (fun r1 h1 R1 s1 => ?_)
  refine gq_i (J 1 (by omega)) ?_
  refine gq_i (J 2 (by omega)) ?_
  refine w_144 R1.1 (fun r2 h2 R2 s2 => ?_)
  exact K h2 R2.1 (s2 (s1 R)) (by have := R1.2.1; have := R2.2.1; omega) (by have := R1.2.2.1; have := R2.2.2.1; omega)
theorem w_106 (I : ck_Iv x_X h) {x1 x2 x3 x4 : Int32} (b4 : x4 = 0 ∨ x4 = 1) (hq : ∀ (r : Int32) h', x_R0 h h' → (y_G h → y_G h') → Q (some (.int r)) h') : mq_Call mq_G (mq_tT lL) 106 [.retAddr 4, .int x1, .int x2, .int x3, .int x4] h Q := by
  refine mq_Call.mono (kv_106 h _ I ⟨rfl, ⟨_, rfl, ci_rng _⟩, ⟨_, rfl, ci_rng _⟩, ⟨_, rfl, ci_rng _⟩, ⟨_, rfl, by rcases b4 with rfl | rfl <;> decide, by rcases b4 with rfl | rfl <;> decide⟩, trivial⟩) (fun v h2 ⟨I2, m2, r, er, _, _⟩ => ?_)
  subst er
  exact hq r h2 (x_R0.md I2 m2 (by decide)) (y_G.md m2 (by decide) (by decide) (by decide) (by decide) I)
theorem w_145 (I : ck_Iv x_X h) {x1 x2 x3 x4 : Int32} (b4 : x4 = 0 ∨ x4 = 1) (hq : ∀ (r : Int32) h', x_R0 h h' → (y_G h → y_G h') → Q (some (.int r)) h') : mq_Call mq_G (mq_tT lL) 145 [.retAddr 59, .int x1, .int x2, .int x3, .int x4] h Q := by
  refine mq_Call.mono (kv_145 h _ I ⟨rfl, ⟨_, rfl, ci_rng _⟩, ⟨_, rfl, ci_rng _⟩, ⟨_, rfl, ci_rng _⟩, ⟨_, rfl, by rcases b4 with rfl | rfl <;> decide, by rcases b4 with rfl | rfl <;> decide⟩, trivial⟩) (fun v h2 ⟨I2, m2, r, er, _, _⟩ => ?_)
  subst er
  exact hq r h2 (x_R0.md I2 m2 (by decide)) (y_G.md m2 (by decide) (by decide) (by decide) (by decide) I)
theorem lw_c3 (I : ck_Iv x_X h) (R : y_G h) (J0 : mq_inb (nI i) lL = true) (J : ∀ j, j < 8 → mq_inb (nI i + nI j) lL = true) (K : ∀ h2, ck_Iv x_X h2 → y_G h2 → mq_N h2 ≤ mq_N h + 200 → mq_Z h2 ≤ mq_Z h + 40000 → mq_At mq_G (mq_tT lL) 232 1147 [some (.retAddr 0), some (.retAddr 4), some (.retAddr 59), some (.int (nI i))] [] h2 Q) : mq_At mq_G (mq_tT lL) 232 227 [some (.retAddr 0), some (.retAddr 4), some (.retAddr 59), some (.int (nI i))] [] h Q := by
  apply mq_go 150 [1147]
  refine gq_i (J 1 (by omega)) ?_
  refine gq_i (J 2 (by omega)) ?_
  refine gq_i (J 3 (by omega)) ?_
  refine gq_i (J 4 (by omega)) ?_
  refine bq_c (fun c1 => ?_) (fun c1 => ?_)
  · refine w_106 I (Or.inl rfl) (fun r1 h1 R1 s1 => ?_)
    refine gq_i (J 1 (by omega)) ?_
    refine gq_i (J 2 (by omega)) ?_
    refine gq_i (J 3 (by omega)) ?_
    refine gq_i (J 4 (by omega)) ?_
    refine bq_c (fun c2 => ?_) (fun c2 => ?_)
    · refine w_145 R1.1 (Or.inl rfl) (fun r2 h2 R2 s2 => ?_)
      exact K h2 R2.1 (s2 (s1 R)) (by have := R1.2.1; have := R2.2.1; omega) (by have := R1.2.2.1; have := R2.2.2.1; omega)
    · refine w_145 R1.1 (Or.inr rfl) (fun r2 h2 R2 s2 => ?_)
      exact K h2 R2.1 (s2 (s1 R)) (by have := R1.2.1; have := R2.2.1; omega) (by have := R1.2.2.1; have := R2.2.2.1; omega)
  · refine w_106 I (Or.inr rfl) (fun r1 h1 R1 s1 => ?_)
    refine gq_i (J 1 (by omega)) ?_
    refine gq_i (J 2 (by omega)) ?_
    refine gq_i (J 3 (by omega)) ?_
    refine gq_i (J 4 (by omega)) ?_
    refine bq_c (fun c2 => ?_) (fun c2 => ?_)
    · refine w_145 R1.1 (Or.inl rfl) (fun r2 h2 R2 s2 => ?_)
      exact K h2 R2.1 (s2 (s1 R)) (by have := R1.2.1; have := R2.2.1; omega) (by have := R1.2.2.1; have := R2.2.2.1; omega)
    · refine w_145 R1.1 (Or.inr rfl) (fun r2 h2 R2 s2 => ?_)
      exact K h2 R2.1 (s2 (s1 R)) (by have := R1.2.1; have := R2.2.1; omega) (by have := R1.2.2.1; have := R2.2.2.1; omega)
theorem w_107 (I : ck_Iv x_X h) {x1 x2 x3 x4 x5 : Int32} (hq : ∀ (r : Int32) h', x_R0 h h' → (y_G h → y_G h') → Q (some (.int r)) h') : mq_Call mq_G (mq_tT lL) 107 [.retAddr 4, .int x1, .int x2, .int x3, .int x4, .int x5] h Q := by
  refine mq_Call.mono (kv_107 h _ I ⟨rfl, ⟨_, rfl, ci_rng _⟩, ⟨_, rfl, ci_rng _⟩, ⟨_, rfl, ci_rng _⟩, ⟨_, rfl, ci_rng _⟩, ⟨_, rfl, ci_rng _⟩, trivial⟩) (fun v h2 ⟨I2, m2, r, er, _, _⟩ => ?_)
  subst er
  exact hq r h2 (x_R0.md I2 m2 (by decide)) (y_G.md m2 (by decide) (by decide) (by decide) (by decide) I)
theorem w_155 (I : ck_Iv x_X h) {x1 x2 x3 x4 x5 : Int32} (hq : ∀ (r : Int32) h', x_R0 h h' → (y_G h → y_G h') → Q (some (.int r)) h') : mq_Call mq_G (mq_tT lL) 155 [.retAddr 59, .int x1, .int x2, .int x3, .int x4, .int x5] h Q := by
  refine mq_Call.mono (kv_155 h _ I ⟨rfl, ⟨_, rfl, ci_rng _⟩, ⟨_, rfl, ci_rng _⟩, ⟨_, rfl, ci_rng _⟩, ⟨_, rfl, ci_rng _⟩, ⟨_, rfl, ci_rng _⟩, trivial⟩) (fun v h2 ⟨I2, m2, r, er, _, _⟩ => ?_)
  subst er
  exact hq r h2 (x_R0.md I2 m2 (by decide)) (y_G.md m2 (by decide) (by decide) (by decide) (by decide) I)
theorem lw_c4 (I : ck_Iv x_X h) (R : y_G h) (J0 : mq_inb (nI i) lL = true) (J : ∀ j, j < 8 → mq_inb (nI i + nI j) lL = true) (K : ∀ h2, ck_Iv x_X h2 → y_G h2 → mq_N h2 ≤ mq_N h + 200 → mq_Z h2 ≤ mq_Z h + 40000 → mq_At mq_G (mq_tT lL) 232 1147 [some (.retAddr 0), some (.retAddr 4), some (.retAddr 59), some (.int (nI i))] [] h2 Q) : mq_At mq_G (mq_tT lL) 232 296 [some (.retAddr 0), some (.retAddr 4), some (.retAddr 59), some (.int (nI i))] [] h Q := by
  apply mq_go 150 [1147]
  refine gq_i (J 1 (by omega)) ?_
  refine gq_i (J 2 (by omega)) ?_
  refine gq_i (J 3 (by omega)) ?_
  refine gq_i (J 4 (by omega)) ?_
  refine gq_i (J 5 (by omega)) ?_
  refine w_107 I (fun r1 h1 R1 s1 => ?_)
  refine gq_i (J 1 (by omega)) ?_
  refine gq_i (J 2 (by omega)) ?_
  refine gq_i (J 3 (by omega)) ?_
  refine gq_i (J 4 (by omega)) ?_
  refine gq_i (J 5 (by omega)) ?_
  refine w_155 R1.1 (fun r2 h2 R2 s2 => ?_)
  exact K h2 R2.1 (s2 (s1 R)) (by have := R1.2.1; have := R2.2.1; omega) (by have := R1.2.2.1; have := R2.2.2.1; omega)
theorem w_108 (I : ck_Iv x_X h) {x1 : Int32} (hq : ∀ (r : Int32) h', x_R0 h h' → (y_G h → y_G h') → Q (some (.int r)) h') : mq_Call mq_G (mq_tT lL) 108 [.retAddr 4, .int x1] h Q := by
  refine mq_Call.mono (kv_108 h _ I ⟨rfl, ⟨_, rfl, ci_rng _⟩, trivial⟩) (fun v h2 ⟨I2, m2, r, er, _, _⟩ => ?_)
  subst er
  exact hq r h2 (x_R0.md I2 m2 (by decide)) (y_G.md m2 (by decide) (by decide) (by decide) (by decide) I)
theorem w_156 (I : ck_Iv x_X h) {x1 : Int32} (hq : ∀ (r : Int32) h', x_R0 h h' → (y_G h → y_G h') → Q (some (.int r)) h') : mq_Call mq_G (mq_tT lL) 156 [.retAddr 59, .int x1] h Q := by
  refine mq_Call.mono (kv_156 h _ I ⟨rfl, ⟨_, rfl, ci_rng _⟩, trivial⟩) (fun v h2 ⟨I2, m2, r, er, _, _⟩ => ?_)
  subst er
  exact hq r h2 (x_R0.md I2 m2 (by decide)) (y_G.md m2 (by decide) (by decide) (by decide) (by decide) I)
theorem lw_c5 (I : ck_Iv x_X h) (R : y_G h) (J0 : mq_inb (nI i) lL = true) (J : ∀ j, j < 8 → mq_inb (nI i + nI j) lL = true) (K : ∀ h2, ck_Iv x_X h2 → y_G h2 → mq_N h2 ≤ mq_N h + 200 → mq_Z h2 ≤ mq_Z h + 40000 → mq_At mq_G (mq_tT lL) 232 1147 [some (.retAddr 0), some (.retAddr 4), some (.retAddr 59), some (.int (nI i))] [] h2 Q) : mq_At mq_G (mq_tT lL) 232 359 [some (.retAddr 0), some (.retAddr 4), some (.retAddr 59), some (.int (nI i))] [] h Q := by
  apply mq_go 150 [1147]
  refine gq_i (J 1 (by omega)) ?_
  refine w_108 I (fun r1 h1 R1 s1 => ?_)
  refine gq_i (J 1 (by omega)) ?_
  refine w_156 R1.1 (fun r2 h2 R2 s2 => ?_)
  exact K h2 R2.1 (s2 (s1 R)) (by have := R1.2.1; have := R2.2.1; omega) (by have := R1.2.2.1; have := R2.2.2.1; omega)
theorem w_109 (I : ck_Iv x_X h) {x1 : Int32} (hq : ∀ (r : Int32) h', x_R0 h h' → (y_G h → y_G h') → Q (some (.int r)) h') : mq_Call mq_G (mq_tT lL) 109 [.retAddr 4, .int x1] h Q := by
  have h100 := I.2.2.1.1
  exact x_ctext I (fun v h2 I2 f2 N2 Z2 l2 => hq v h2 ⟨I2, by omega, by omega, by funext k; exact f2.1 0 k (by omega) (show Nat.testBit x_CtM 0 = false by decide)⟩ (fun R => y_R.cf y_FE f2 (by decide) (by decide) (by decide) (by decide) I R))
theorem w_177 (I : ck_Iv x_X h) {x1 : Int32} (hq : ∀ (r : Int32) h', x_R0 h h' → (y_G h → y_G h') → Q (some (.int r)) h') : mq_Call mq_G (mq_tT lL) 177 [.retAddr 59, .int x1] h Q := by
  exact x_mtext I (fun v h2 I2 m2 => hq v h2 (x_R0.md I2 m2 (by decide)) (y_G.md m2 (by decide) (by decide) (by decide) (by decide) I))
theorem lw_c6 (I : ck_Iv x_X h) (R : y_G h) (J0 : mq_inb (nI i) lL = true) (J : ∀ j, j < 8 → mq_inb (nI i + nI j) lL = true) (K : ∀ h2, ck_Iv x_X h2 → y_G h2 → mq_N h2 ≤ mq_N h + 200 → mq_Z h2 ≤ mq_Z h + 40000 → mq_At mq_G (mq_tT lL) 232 1147 [some (.retAddr 0), some (.retAddr 4), some (.retAddr 59), some (.int (nI i))] [] h2 Q) : mq_At mq_G (mq_tT lL) 232 382 [some (.retAddr 0), some (.retAddr 4), some (.retAddr 59), some (.int (nI i))] [] h Q := by
  apply mq_go 150 [1147]
  refine gq_i (J 1 (by omega)) ?_
  refine w_109 I (fun r1 h1 R1 s1 => ?_)
  refine gq_i (J 1 (by omega)) ?_
  refine w_177 R1.1 (fun r2 h2 R2 s2 => ?_)
  exact K h2 R2.1 (s2 (s1 R)) (by have := R1.2.1; have := R2.2.1; omega) (by have := R1.2.2.1; have := R2.2.2.1; omega)
theorem w_110 (I : ck_Iv x_X h) {x1 : Int32} (hq : ∀ (r : Int32) h', x_R0 h h' → (y_G h → y_G h') → Q (some (.int r)) h') : mq_Call mq_G (mq_tT lL) 110 [.retAddr 4, .int x1] h Q := by
  refine mq_Call.mono (kv_110 h _ I ⟨rfl, ⟨_, rfl, ci_rng _⟩, trivial⟩) (fun v h2 ⟨I2, m2, r, er, _, _⟩ => ?_)
  subst er
  exact hq r h2 (x_R0.md I2 m2 (by decide)) (y_G.md m2 (by decide) (by decide) (by decide) (by decide) I)
theorem w_178 (I : ck_Iv x_X h) {x1 : Int32} (hq : ∀ (r : Int32) h', x_R0 h h' → (y_G h → y_G h') → Q (some (.int r)) h') : mq_Call mq_G (mq_tT lL) 178 [.retAddr 59, .int x1] h Q := by
  refine mq_Call.mono (kv_178 h _ I ⟨rfl, ⟨_, rfl, ci_rng _⟩, trivial⟩) (fun v h2 ⟨I2, m2, r, er, _, _⟩ => ?_)
  subst er
  exact hq r h2 (x_R0.md I2 m2 (by decide)) (y_G.md m2 (by decide) (by decide) (by decide) (by decide) I)
theorem lw_c7 (I : ck_Iv x_X h) (R : y_G h) (J0 : mq_inb (nI i) lL = true) (J : ∀ j, j < 8 → mq_inb (nI i + nI j) lL = true) (K : ∀ h2, ck_Iv x_X h2 → y_G h2 → mq_N h2 ≤ mq_N h + 200 → mq_Z h2 ≤ mq_Z h + 40000 → mq_At mq_G (mq_tT lL) 232 1147 [some (.retAddr 0), some (.retAddr 4), some (.retAddr 59), some (.int (nI i))] [] h2 Q) : mq_At mq_G (mq_tT lL) 232 405 [some (.retAddr 0), some (.retAddr 4), some (.retAddr 59), some (.int (nI i))] [] h Q := by
  apply mq_go 150 [1147]
  refine gq_i (J 1 (by omega)) ?_
  refine w_110 I (fun r1 h1 R1 s1 => ?_)
  refine gq_i (J 1 (by omega)) ?_
  refine w_178 R1.1 (fun r2 h2 R2 s2 => ?_)
  exact K h2 R2.1 (s2 (s1 R)) (by have := R1.2.1; have := R2.2.1; omega) (by have := R1.2.2.1; have := R2.2.2.1; omega)
theorem w_111 (I : ck_Iv x_X h) {x1 x2 x3 x4 x5 x6 : Int32} (hq : ∀ (r : Int32) h', x_R0 h h' → ck_md kc_111.2.2 h h' → y_pc_claim x1 x2 x3 x4 x5 x6 h (some (.int r)) h' → Q (some (.int r)) h') : mq_Call mq_G (mq_tT lL) 111 [.retAddr 4, .int x1, .int x2, .int x3, .int x4, .int x5, .int x6] h Q := by
  refine mq_Call.mono (mq_Call.and (kv_111 h _ I ⟨rfl, ⟨_, rfl, ci_rng _⟩, ⟨_, rfl, ci_rng _⟩, ⟨_, rfl, ci_rng _⟩, ⟨_, rfl, ci_rng _⟩, ⟨_, rfl, ci_rng _⟩, ⟨_, rfl, ci_rng _⟩, trivial⟩) (y_c_claim I)) (fun v h2 ⟨⟨I2, m2, r, er, _, _⟩, sp⟩ => ?_)
  subst er
  exact hq r h2 (x_R0.md I2 m2 (by decide)) m2 sp
theorem w_147 (I : ck_Iv x_X h) {x1 x2 x3 x4 x5 x6 : Int32} (hq : ∀ (r : Int32) h', x_R0 h h' → ck_md kc_147.2.2 h h' → y_pm_claim x1 x2 x3 x4 x5 x6 h (some (.int r)) h' → Q (some (.int r)) h') : mq_Call mq_G (mq_tT lL) 147 [.retAddr 59, .int x1, .int x2, .int x3, .int x4, .int x5, .int x6] h Q := by
  refine mq_Call.mono (mq_Call.and (mq_Call.and (k0_147 h _ ⟨I.1, I.2.1, trivial⟩ ⟨rfl, ⟨_, rfl, ci_rng _⟩, ⟨_, rfl, ci_rng _⟩, ⟨_, rfl, ci_rng _⟩, ⟨_, rfl, ci_rng _⟩, ⟨_, rfl, ci_rng _⟩, ⟨_, rfl, ci_rng _⟩, trivial⟩) (x_claim_ct I)) (y_m_claim I)) (fun v h2 ⟨⟨⟨I2, m2, r, er, _, _⟩, ct⟩, sp⟩ => ?_)
  subst er
  exact hq r h2 (x_R0.md ⟨I2.1, I2.2.1, x_Xc m2 (by decide) (by decide) I.2.2 ct⟩ m2 (by decide)) m2 sp
theorem lw_c8 (I : ck_Iv x_X h) (R : y_G h) (J0 : mq_inb (nI i) lL = true) (J : ∀ j, j < 8 → mq_inb (nI i + nI j) lL = true) (K : ∀ h2, ck_Iv x_X h2 → y_G h2 → mq_N h2 ≤ mq_N h + 200 → mq_Z h2 ≤ mq_Z h + 40000 → mq_At mq_G (mq_tT lL) 232 1147 [some (.retAddr 0), some (.retAddr 4), some (.retAddr 59), some (.int (nI i))] [] h2 Q) : mq_At mq_G (mq_tT lL) 232 428 [some (.retAddr 0), some (.retAddr 4), some (.retAddr 59), some (.int (nI i))] [] h Q := by
  apply mq_go 150 [1147]
  refine gq_i (J 1 (by omega)) ?_
  refine gq_i (J 2 (by omega)) ?_
  refine gq_i (J 3 (by omega)) ?_
  refine gq_i (J 4 (by omega)) ?_
  refine gq_i (J 5 (by omega)) ?_
  refine gq_i (J 6 (by omega)) ?_
  refine w_111 I (fun r1 h1 R1 m1 s1 => ?_)
  refine gq_i (J 1 (by omega)) ?_
  refine gq_i (J 2 (by omega)) ?_
  refine gq_i (J 3 (by omega)) ?_
  refine gq_i (J 4 (by omega)) ?_
  refine gq_i (J 5 (by omega)) ?_
  refine gq_i (J 6 (by omega)) ?_
  refine w_147 R1.1 (fun r2 h2 R2 m2 s2 => ?_)
  rw [R1.2.2.2] at s2
  obtain ⟨er, G2⟩ := y_x_claim R I R1.1 m1 s1 m2 s2
  exact K h2 R2.1 G2 (by have := R1.2.1; have := R2.2.1; omega) (by have := R1.2.2.1; have := R2.2.2.1; omega)
theorem w_112 (I : ck_Iv x_X h) {x1 x2 x3 x4 : Int32} (hq : ∀ (r : Int32) h', x_R0 h h' → ck_md kc_112.2.2 h h' → y_pc_fact x1 x2 x3 x4 h (some (.int r)) h' → Q (some (.int r)) h') : mq_Call mq_G (mq_tT lL) 112 [.retAddr 4, .int x1, .int x2, .int x3, .int x4] h Q := by
  refine mq_Call.mono (mq_Call.and (kv_112 h _ I ⟨rfl, ⟨_, rfl, ci_rng _⟩, ⟨_, rfl, ci_rng _⟩, ⟨_, rfl, ci_rng _⟩, ⟨_, rfl, ci_rng _⟩, trivial⟩) (y_c_fact I)) (fun v h2 ⟨⟨I2, m2, r, er, _, _⟩, sp⟩ => ?_)
  subst er
  exact hq r h2 (x_R0.md I2 m2 (by decide)) m2 sp
theorem w_148 (I : ck_Iv x_X h) {x1 x2 x3 x4 : Int32} (hq : ∀ (r : Int32) h', x_R0 h h' → ck_md kc_148.2.2 h h' → y_pm_fact x1 x2 x3 x4 h (some (.int r)) h' → Q (some (.int r)) h') : mq_Call mq_G (mq_tT lL) 148 [.retAddr 59, .int x1, .int x2, .int x3, .int x4] h Q := by
  refine mq_Call.mono (mq_Call.and (mq_Call.and (k0_148 h _ ⟨I.1, I.2.1, trivial⟩ ⟨rfl, ⟨_, rfl, ci_rng _⟩, ⟨_, rfl, ci_rng _⟩, ⟨_, rfl, ci_rng _⟩, ⟨_, rfl, ci_rng _⟩, trivial⟩) (x_fact_ct I)) (y_m_fact I)) (fun v h2 ⟨⟨⟨I2, m2, r, er, _, _⟩, ct⟩, sp⟩ => ?_)
  subst er
  exact hq r h2 (x_R0.md ⟨I2.1, I2.2.1, x_Xc m2 (by decide) (by decide) I.2.2 ct⟩ m2 (by decide)) m2 sp
theorem lw_c9 (I : ck_Iv x_X h) (R : y_G h) (J0 : mq_inb (nI i) lL = true) (J : ∀ j, j < 8 → mq_inb (nI i + nI j) lL = true) (K : ∀ h2, ck_Iv x_X h2 → y_G h2 → mq_N h2 ≤ mq_N h + 200 → mq_Z h2 ≤ mq_Z h + 40000 → mq_At mq_G (mq_tT lL) 232 1147 [some (.retAddr 0), some (.retAddr 4), some (.retAddr 59), some (.int (nI i))] [] h2 Q) : mq_At mq_G (mq_tT lL) 232 503 [some (.retAddr 0), some (.retAddr 4), some (.retAddr 59), some (.int (nI i))] [] h Q := by
  apply mq_go 150 [1147]
  refine gq_i (J 1 (by omega)) ?_
  refine gq_i (J 2 (by omega)) ?_
  refine gq_i (J 3 (by omega)) ?_
  refine gq_i (J 4 (by omega)) ?_
  refine w_112 I (fun r1 h1 R1 m1 s1 => ?_)
  refine gq_i (J 1 (by omega)) ?_
  refine gq_i (J 2 (by omega)) ?_
  refine gq_i (J 3 (by omega)) ?_
  refine gq_i (J 4 (by omega)) ?_
  refine w_148 R1.1 (fun r2 h2 R2 m2 s2 => ?_)
  rw [R1.2.2.2] at s2
  obtain ⟨er, G2⟩ := y_x_fact R I R1.1 m1 s1 m2 s2
  exact K h2 R2.1 G2 (by have := R1.2.1; have := R2.2.1; omega) (by have := R1.2.2.1; have := R2.2.2.1; omega)
theorem w_113 (I : ck_Iv x_X h) {x1 x2 x3 : Int32} (hq : ∀ (r : Int32) h', x_R0 h h' → ck_md kc_113.2.2 h h' → y_pc_doubt x1 x2 x3 h (some (.int r)) h' → Q (some (.int r)) h') : mq_Call mq_G (mq_tT lL) 113 [.retAddr 4, .int x1, .int x2, .int x3] h Q := by
  refine mq_Call.mono (mq_Call.and (kv_113 h _ I ⟨rfl, ⟨_, rfl, ci_rng _⟩, ⟨_, rfl, ci_rng _⟩, ⟨_, rfl, ci_rng _⟩, trivial⟩) (y_c_doubt I)) (fun v h2 ⟨⟨I2, m2, r, er, _, _⟩, sp⟩ => ?_)
  subst er
  exact hq r h2 (x_R0.md I2 m2 (by decide)) m2 sp
theorem w_150 (I : ck_Iv x_X h) {x1 x2 x3 : Int32} (hq : ∀ (r : Int32) h', x_R0 h h' → ck_md kc_150.2.2 h h' → y_pm_doubt x1 x2 x3 h (some (.int r)) h' → Q (some (.int r)) h') : mq_Call mq_G (mq_tT lL) 150 [.retAddr 59, .int x1, .int x2, .int x3] h Q := by
  refine mq_Call.mono (mq_Call.and (mq_Call.and (k0_150 h _ ⟨I.1, I.2.1, trivial⟩ ⟨rfl, ⟨_, rfl, ci_rng _⟩, ⟨_, rfl, ci_rng _⟩, ⟨_, rfl, ci_rng _⟩, trivial⟩) (x_doubt_ct I)) (y_m_doubt I)) (fun v h2 ⟨⟨⟨I2, m2, r, er, _, _⟩, ct⟩, sp⟩ => ?_)
  subst er
  exact hq r h2 (x_R0.md ⟨I2.1, I2.2.1, x_Xc m2 (by decide) (by decide) I.2.2 ct⟩ m2 (by decide)) m2 sp
theorem lw_c10 (I : ck_Iv x_X h) (R : y_G h) (J0 : mq_inb (nI i) lL = true) (J : ∀ j, j < 8 → mq_inb (nI i + nI j) lL = true) (K : ∀ h2, ck_Iv x_X h2 → y_G h2 → mq_N h2 ≤ mq_N h + 200 → mq_Z h2 ≤ mq_Z h + 40000 → mq_At mq_G (mq_tT lL) 232 1147 [some (.retAddr 0), some (.retAddr 4), some (.retAddr 59), some (.int (nI i))] [] h2 Q) : mq_At mq_G (mq_tT lL) 232 556 [some (.retAddr 0), some (.retAddr 4), some (.retAddr 59), some (.int (nI i))] [] h Q := by
  apply mq_go 150 [1147]
  refine gq_i (J 1 (by omega)) ?_
  refine gq_i (J 2 (by omega)) ?_
  refine gq_i (J 3 (by omega)) ?_
  refine w_113 I (fun r1 h1 R1 m1 s1 => ?_)
  refine gq_i (J 1 (by omega)) ?_
  refine gq_i (J 2 (by omega)) ?_
  refine gq_i (J 3 (by omega)) ?_
  refine w_150 R1.1 (fun r2 h2 R2 m2 s2 => ?_)
  rw [R1.2.2.2] at s2
  obtain ⟨er, G2⟩ := y_x_doubt R I R1.1 m1 s1 m2 s2
  refine bq_t er ?_
  exact K h2 R2.1 G2 (by have := R1.2.1; have := R2.2.1; omega) (by have := R1.2.2.1; have := R2.2.2.1; omega)
theorem w_114 (I : ck_Iv x_X h) {x1 : Int32} (hq : ∀ (r : Int32) h', x_R0 h h' → (y_G h → y_G h') → Q (some (.int r)) h') : mq_Call mq_G (mq_tT lL) 114 [.retAddr 4, .int x1] h Q := by
  refine mq_Call.mono (kv_114 h _ I ⟨rfl, ⟨_, rfl, ci_rng _⟩, trivial⟩) (fun v h2 ⟨I2, m2, r, er, _, _⟩ => ?_)
  subst er
  exact hq r h2 (x_R0.md I2 m2 (by decide)) (y_G.md m2 (by decide) (by decide) (by decide) (by decide) I)
theorem w_194 (I : ck_Iv x_X h) {x1 : Int32} (hq : ∀ (r : Int32) h', x_R0 h h' → (y_G h → y_G h') → Q (some (.int r)) h') : mq_Call mq_G (mq_tT lL) 194 [.retAddr 59, .int x1] h Q := by
  refine mq_Call.mono (kv_194 h _ I ⟨rfl, ⟨_, rfl, ci_rng _⟩, trivial⟩) (fun v h2 ⟨I2, m2, r, er, _, _⟩ => ?_)
  subst er
  exact hq r h2 (x_R0.md I2 m2 (by decide)) (y_G.md m2 (by decide) (by decide) (by decide) (by decide) I)
theorem lw_c11 (I : ck_Iv x_X h) (R : y_G h) (J0 : mq_inb (nI i) lL = true) (J : ∀ j, j < 8 → mq_inb (nI i + nI j) lL = true) (K : ∀ h2, ck_Iv x_X h2 → y_G h2 → mq_N h2 ≤ mq_N h + 200 → mq_Z h2 ≤ mq_Z h + 40000 → mq_At mq_G (mq_tT lL) 232 1147 [some (.retAddr 0), some (.retAddr 4), some (.retAddr 59), some (.int (nI i))] [] h2 Q) : mq_At mq_G (mq_tT lL) 232 599 [some (.retAddr 0), some (.retAddr 4), some (.retAddr 59), some (.int (nI i))] [] h Q := by
  apply mq_go 150 [1147]
  refine gq_i (J 1 (by omega)) ?_
  refine w_114 I (fun r1 h1 R1 s1 => ?_)
  refine gq_i (J 1 (by omega)) ?_
  refine w_194 R1.1 (fun r2 h2 R2 s2 => ?_)
  exact K h2 R2.1 (s2 (s1 R)) (by have := R1.2.1; have := R2.2.1; omega) (by have := R1.2.2.1; have := R2.2.2.1; omega)
theorem w_115 (I : ck_Iv x_X h) {x1 x2 x3 : Int32} (hq : ∀ (r : Int32) h', x_R0 h h' → (y_G h → y_G h') → Q (some (.int r)) h') : mq_Call mq_G (mq_tT lL) 115 [.retAddr 4, .int x1, .int x2, .int x3] h Q := by
  refine mq_Call.mono (kv_115 h _ I ⟨rfl, ⟨_, rfl, ci_rng _⟩, ⟨_, rfl, ci_rng _⟩, ⟨_, rfl, ci_rng _⟩, trivial⟩) (fun v h2 ⟨I2, m2, r, er, _, _⟩ => ?_)
  subst er
  exact hq r h2 (x_R0.md I2 m2 (by decide)) (y_G.md m2 (by decide) (by decide) (by decide) (by decide) I)
theorem w_196 (I : ck_Iv x_X h) {x1 x2 x3 : Int32} (hq : ∀ (r : Int32) h', x_R0 h h' → (y_G h → y_G h') → Q (some (.int r)) h') : mq_Call mq_G (mq_tT lL) 196 [.retAddr 59, .int x1, .int x2, .int x3] h Q := by
  refine mq_Call.mono (kv_196 h _ I ⟨rfl, ⟨_, rfl, ci_rng _⟩, ⟨_, rfl, ci_rng _⟩, ⟨_, rfl, ci_rng _⟩, trivial⟩) (fun v h2 ⟨I2, m2, r, er, _, _⟩ => ?_)
  subst er
  exact hq r h2 (x_R0.md I2 m2 (by decide)) (y_G.md m2 (by decide) (by decide) (by decide) (by decide) I)
theorem lw_c12 (I : ck_Iv x_X h) (R : y_G h) (J0 : mq_inb (nI i) lL = true) (J : ∀ j, j < 8 → mq_inb (nI i + nI j) lL = true) (K : ∀ h2, ck_Iv x_X h2 → y_G h2 → mq_N h2 ≤ mq_N h + 200 → mq_Z h2 ≤ mq_Z h + 40000 → mq_At mq_G (mq_tT lL) 232 1147 [some (.retAddr 0), some (.retAddr 4), some (.retAddr 59), some (.int (nI i))] [] h2 Q) : mq_At mq_G (mq_tT lL) 232 622 [some (.retAddr 0), some (.retAddr 4), some (.retAddr 59), some (.int (nI i))] [] h Q := by
  apply mq_go 150 [1147]
  refine gq_i (J 1 (by omega)) ?_
  refine gq_i (J 2 (by omega)) ?_
  refine gq_i (J 3 (by omega)) ?_
  refine w_115 I (fun r1 h1 R1 s1 => ?_)
  refine gq_i (J 1 (by omega)) ?_
  refine gq_i (J 2 (by omega)) ?_
  refine gq_i (J 3 (by omega)) ?_
  refine w_196 R1.1 (fun r2 h2 R2 s2 => ?_)
  exact K h2 R2.1 (s2 (s1 R)) (by have := R1.2.1; have := R2.2.1; omega) (by have := R1.2.2.1; have := R2.2.2.1; omega)
theorem w_116 (I : ck_Iv x_X h) {x1 x2 : Int32} (hq : ∀ (r : Int32) h', x_R0 h h' → (y_G h → y_G h') → Q (some (.int r)) h') : mq_Call mq_G (mq_tT lL) 116 [.retAddr 4, .int x1, .int x2] h Q := by
  refine mq_Call.mono (kv_116 h _ I ⟨rfl, ⟨_, rfl, ci_rng _⟩, ⟨_, rfl, ci_rng _⟩, trivial⟩) (fun v h2 ⟨I2, m2, r, er, _, _⟩ => ?_)
  subst er
  exact hq r h2 (x_R0.md I2 m2 (by decide)) (y_G.md m2 (by decide) (by decide) (by decide) (by decide) I)
theorem w_199 (I : ck_Iv x_X h) {x1 x2 : Int32} (hq : ∀ (r : Int32) h', x_R0 h h' → (y_G h → y_G h') → Q (some (.int r)) h') : mq_Call mq_G (mq_tT lL) 199 [.retAddr 59, .int x1, .int x2] h Q := by
  refine mq_Call.mono (kv_199 h _ I ⟨rfl, ⟨_, rfl, ci_rng _⟩, ⟨_, rfl, ci_rng _⟩, trivial⟩) (fun v h2 ⟨I2, m2, r, er, _, _⟩ => ?_)
  subst er
  exact hq r h2 (x_R0.md I2 m2 (by decide)) (y_G.md m2 (by decide) (by decide) (by decide) (by decide) I)
theorem lw_c13 (I : ck_Iv x_X h) (R : y_G h) (J0 : mq_inb (nI i) lL = true) (J : ∀ j, j < 8 → mq_inb (nI i + nI j) lL = true) (K : ∀ h2, ck_Iv x_X h2 → y_G h2 → mq_N h2 ≤ mq_N h + 200 → mq_Z h2 ≤ mq_Z h + 40000 → mq_At mq_G (mq_tT lL) 232 1147 [some (.retAddr 0), some (.retAddr 4), some (.retAddr 59), some (.int (nI i))] [] h2 Q) : mq_At mq_G (mq_tT lL) 232 665 [some (.retAddr 0), some (.retAddr 4), some (.retAddr 59), some (.int (nI i))] [] h Q := by
  apply mq_go 150 [1147]
  refine gq_i (J 1 (by omega)) ?_
  refine gq_i (J 2 (by omega)) ?_
  refine w_116 I (fun r1 h1 R1 s1 => ?_)
  refine gq_i (J 1 (by omega)) ?_
  refine gq_i (J 2 (by omega)) ?_
  refine w_199 R1.1 (fun r2 h2 R2 s2 => ?_)
  exact K h2 R2.1 (s2 (s1 R)) (by have := R1.2.1; have := R2.2.1; omega) (by have := R1.2.2.1; have := R2.2.2.1; omega)
theorem w_117 (I : ck_Iv x_X h) {x1 x2 : Int32} (hq : ∀ (r : Int32) h', x_R0 h h' → (y_G h → y_G h') → Q (some (.int r)) h') : mq_Call mq_G (mq_tT lL) 117 [.retAddr 4, .int x1, .int x2] h Q := by
  refine mq_Call.mono (kv_117 h _ I ⟨rfl, ⟨_, rfl, ci_rng _⟩, ⟨_, rfl, ci_rng _⟩, trivial⟩) (fun v h2 ⟨I2, m2, r, er, _, _⟩ => ?_)
  subst er
  exact hq r h2 (x_R0.md I2 m2 (by decide)) (y_G.md m2 (by decide) (by decide) (by decide) (by decide) I)
theorem w_200 (I : ck_Iv x_X h) {x1 x2 : Int32} (hq : ∀ (r : Int32) h', x_R0 h h' → (y_G h → y_G h') → Q (some (.int r)) h') : mq_Call mq_G (mq_tT lL) 200 [.retAddr 59, .int x1, .int x2] h Q := by
  refine mq_Call.mono (kv_200 h _ I ⟨rfl, ⟨_, rfl, ci_rng _⟩, ⟨_, rfl, ci_rng _⟩, trivial⟩) (fun v h2 ⟨I2, m2, r, er, _, _⟩ => ?_)
  subst er
  exact hq r h2 (x_R0.md I2 m2 (by decide)) (y_G.md m2 (by decide) (by decide) (by decide) (by decide) I)
theorem lw_c14 (I : ck_Iv x_X h) (R : y_G h) (J0 : mq_inb (nI i) lL = true) (J : ∀ j, j < 8 → mq_inb (nI i + nI j) lL = true) (K : ∀ h2, ck_Iv x_X h2 → y_G h2 → mq_N h2 ≤ mq_N h + 200 → mq_Z h2 ≤ mq_Z h + 40000 → mq_At mq_G (mq_tT lL) 232 1147 [some (.retAddr 0), some (.retAddr 4), some (.retAddr 59), some (.int (nI i))] [] h2 Q) : mq_At mq_G (mq_tT lL) 232 698 [some (.retAddr 0), some (.retAddr 4), some (.retAddr 59), some (.int (nI i))] [] h Q := by
  apply mq_go 150 [1147]
  refine gq_i (J 1 (by omega)) ?_
  refine gq_i (J 2 (by omega)) ?_
  refine w_117 I (fun r1 h1 R1 s1 => ?_)
  refine gq_i (J 1 (by omega)) ?_
  refine gq_i (J 2 (by omega)) ?_
  refine w_200 R1.1 (fun r2 h2 R2 s2 => ?_)
  exact K h2 R2.1 (s2 (s1 R)) (by have := R1.2.1; have := R2.2.1; omega) (by have := R1.2.2.1; have := R2.2.2.1; omega)
theorem w_119 (I : ck_Iv x_X h) {x1 x2 x3 x4 x5 x6 x7 : Int32} (hq : ∀ (r : Int32) h', x_R0 h h' → (y_G h → y_G h') → Q (some (.int r)) h') : mq_Call mq_G (mq_tT lL) 119 [.retAddr 4, .int x1, .int x2, .int x3, .int x4, .int x5, .int x6, .int x7] h Q := by
  refine mq_Call.mono (kv_119 h _ I ⟨rfl, ⟨_, rfl, ci_rng _⟩, ⟨_, rfl, ci_rng _⟩, ⟨_, rfl, ci_rng _⟩, ⟨_, rfl, ci_rng _⟩, ⟨_, rfl, ci_rng _⟩, ⟨_, rfl, ci_rng _⟩, ⟨_, rfl, ci_rng _⟩, trivial⟩) (fun v h2 ⟨I2, m2, r, er, _, _⟩ => ?_)
  subst er
  exact hq r h2 (x_R0.md I2 m2 (by decide)) (y_G.md m2 (by decide) (by decide) (by decide) (by decide) I)
theorem w_153 (I : ck_Iv x_X h) {x1 x2 x3 x4 x5 x6 x7 : Int32} (hq : ∀ (r : Int32) h', x_R0 h h' → (y_G h → y_G h') → Q (some (.int r)) h') : mq_Call mq_G (mq_tT lL) 153 [.retAddr 59, .int x1, .int x2, .int x3, .int x4, .int x5, .int x6, .int x7] h Q := by
  refine mq_Call.mono (kv_153 h _ I ⟨rfl, ⟨_, rfl, ci_rng _⟩, ⟨_, rfl, ci_rng _⟩, ⟨_, rfl, ci_rng _⟩, ⟨_, rfl, ci_rng _⟩, ⟨_, rfl, ci_rng _⟩, ⟨_, rfl, ci_rng _⟩, ⟨_, rfl, ci_rng _⟩, trivial⟩) (fun v h2 ⟨I2, m2, r, er, _, _⟩ => ?_)
  subst er
  exact hq r h2 (x_R0.md I2 m2 (by decide)) (y_G.md m2 (by decide) (by decide) (by decide) (by decide) I)
theorem lw_c15 (I : ck_Iv x_X h) (R : y_G h) (J0 : mq_inb (nI i) lL = true) (J : ∀ j, j < 8 → mq_inb (nI i + nI j) lL = true) (K : ∀ h2, ck_Iv x_X h2 → y_G h2 → mq_N h2 ≤ mq_N h + 200 → mq_Z h2 ≤ mq_Z h + 40000 → mq_At mq_G (mq_tT lL) 232 1147 [some (.retAddr 0), some (.retAddr 4), some (.retAddr 59), some (.int (nI i))] [] h2 Q) : mq_At mq_G (mq_tT lL) 232 731 [some (.retAddr 0), some (.retAddr 4), some (.retAddr 59), some (.int (nI i))] [] h Q := by
  apply mq_go 150 [1147]
  refine gq_i (J 1 (by omega)) ?_
  refine gq_i (J 2 (by omega)) ?_
  refine gq_i (J 3 (by omega)) ?_
  refine gq_i (J 4 (by omega)) ?_
  refine gq_i (J 5 (by omega)) ?_
  refine gq_i (J 6 (by omega)) ?_
  refine gq_i (J 7 (by omega)) ?_
  refine w_119 I (fun r1 h1 R1 s1 => ?_)
  refine gq_i (J 1 (by omega)) ?_
  refine gq_i (J 2 (by omega)) ?_
  refine gq_i (J 3 (by omega)) ?_
  refine gq_i (J 4 (by omega)) ?_
  refine gq_i (J 5 (by omega)) ?_
  refine gq_i (J 6 (by omega)) ?_
  refine gq_i (J 7 (by omega)) ?_
  refine w_153 R1.1 (fun r2 h2 R2 s2 => ?_)
  exact K h2 R2.1 (s2 (s1 R)) (by have := R1.2.1; have := R2.2.1; omega) (by have := R1.2.2.1; have := R2.2.2.1; omega)
theorem w_121 (I : ck_Iv x_X h) {x1 x2 : Int32} (b2 : x2 = 0 ∨ x2 = 1) (hq : ∀ (r : Int32) h', x_R0 h h' → (y_G h → y_G h') → Q (some (.int r)) h') : mq_Call mq_G (mq_tT lL) 121 [.retAddr 4, .int x1, .int x2] h Q := by
  refine mq_Call.mono (kv_121 h _ I ⟨rfl, ⟨_, rfl, ci_rng _⟩, ⟨_, rfl, by rcases b2 with rfl | rfl <;> decide, by rcases b2 with rfl | rfl <;> decide⟩, trivial⟩) (fun v h2 ⟨I2, m2, r, er, _, _⟩ => ?_)
  subst er
  exact hq r h2 (x_R0.md I2 m2 (by decide)) (y_G.md m2 (by decide) (by decide) (by decide) (by decide) I)
theorem w_151 (I : ck_Iv x_X h) {x1 x2 : Int32} (b2 : x2 = 0 ∨ x2 = 1) (hq : ∀ (r : Int32) h', x_R0 h h' → (y_G h → y_G h') → Q (some (.int r)) h') : mq_Call mq_G (mq_tT lL) 151 [.retAddr 59, .int x1, .int x2] h Q := by
  refine mq_Call.mono (kv_151 h _ I ⟨rfl, ⟨_, rfl, ci_rng _⟩, ⟨_, rfl, by rcases b2 with rfl | rfl <;> decide, by rcases b2 with rfl | rfl <;> decide⟩, trivial⟩) (fun v h2 ⟨I2, m2, r, er, _, _⟩ => ?_)
  subst er
  exact hq r h2 (x_R0.md I2 m2 (by decide)) (y_G.md m2 (by decide) (by decide) (by decide) (by decide) I)
theorem lw_c16 (I : ck_Iv x_X h) (R : y_G h) (J0 : mq_inb (nI i) lL = true) (J : ∀ j, j < 8 → mq_inb (nI i + nI j) lL = true) (K : ∀ h2, ck_Iv x_X h2 → y_G h2 → mq_N h2 ≤ mq_N h + 200 → mq_Z h2 ≤ mq_Z h + 40000 → mq_At mq_G (mq_tT lL) 232 1147 [some (.retAddr 0), some (.retAddr 4), some (.retAddr 59), some (.int (nI i))] [] h2 Q) : mq_At mq_G (mq_tT lL) 232 818 [some (.retAddr 0), some (.retAddr 4), some (.retAddr 59), some (.int (nI i))] [] h Q := by
  apply mq_go 150 [1147]
  refine gq_i (J 1 (by omega)) ?_
  refine gq_i (J 2 (by omega)) ?_
  refine bq_c (fun c1 => ?_) (fun c1 => ?_)
  · refine w_121 I (Or.inl rfl) (fun r1 h1 R1 s1 => ?_)
    refine gq_i (J 1 (by omega)) ?_
    refine gq_i (J 2 (by omega)) ?_
    refine bq_c (fun c2 => ?_) (fun c2 => ?_)
    · refine w_151 R1.1 (Or.inl rfl) (fun r2 h2 R2 s2 => ?_)
      exact K h2 R2.1 (s2 (s1 R)) (by have := R1.2.1; have := R2.2.1; omega) (by have := R1.2.2.1; have := R2.2.2.1; omega)
    · refine w_151 R1.1 (Or.inr rfl) (fun r2 h2 R2 s2 => ?_)
      exact K h2 R2.1 (s2 (s1 R)) (by have := R1.2.1; have := R2.2.1; omega) (by have := R1.2.2.1; have := R2.2.2.1; omega)
  · refine w_121 I (Or.inr rfl) (fun r1 h1 R1 s1 => ?_)
    refine gq_i (J 1 (by omega)) ?_
    refine gq_i (J 2 (by omega)) ?_
    refine bq_c (fun c2 => ?_) (fun c2 => ?_)
    · refine w_151 R1.1 (Or.inl rfl) (fun r2 h2 R2 s2 => ?_)
      exact K h2 R2.1 (s2 (s1 R)) (by have := R1.2.1; have := R2.2.1; omega) (by have := R1.2.2.1; have := R2.2.2.1; omega)
    · refine w_151 R1.1 (Or.inr rfl) (fun r2 h2 R2 s2 => ?_)
      exact K h2 R2.1 (s2 (s1 R)) (by have := R1.2.1; have := R2.2.1; omega) (by have := R1.2.2.1; have := R2.2.2.1; omega)
theorem w_122 (I : ck_Iv x_X h) {x1 x2 : Int32} (hq : ∀ (r : Int32) h', x_R0 h h' → (y_G h → y_G h') → Q (some (.int r)) h') : mq_Call mq_G (mq_tT lL) 122 [.retAddr 4, .int x1, .int x2] h Q := by
  refine mq_Call.mono (kv_122 h _ I ⟨rfl, ⟨_, rfl, ci_rng _⟩, ⟨_, rfl, ci_rng _⟩, trivial⟩) (fun v h2 ⟨I2, m2, r, er, _, _⟩ => ?_)
  subst er
  exact hq r h2 (x_R0.md I2 m2 (by decide)) (y_G.md m2 (by decide) (by decide) (by decide) (by decide) I)
theorem w_209 (I : ck_Iv x_X h) {x1 x2 : Int32} (hq : ∀ (r : Int32) h', x_R0 h h' → (y_G h → y_G h') → Q (some (.int r)) h') : mq_Call mq_G (mq_tT lL) 209 [.retAddr 59, .int x1, .int x2] h Q := by
  refine mq_Call.mono (kv_209 h _ I ⟨rfl, ⟨_, rfl, ci_rng _⟩, ⟨_, rfl, ci_rng _⟩, trivial⟩) (fun v h2 ⟨I2, m2, r, er, _, _⟩ => ?_)
  subst er
  exact hq r h2 (x_R0.md I2 m2 (by decide)) (y_G.md m2 (by decide) (by decide) (by decide) (by decide) I)
theorem lw_c17 (I : ck_Iv x_X h) (R : y_G h) (J0 : mq_inb (nI i) lL = true) (J : ∀ j, j < 8 → mq_inb (nI i + nI j) lL = true) (K : ∀ h2, ck_Iv x_X h2 → y_G h2 → mq_N h2 ≤ mq_N h + 200 → mq_Z h2 ≤ mq_Z h + 40000 → mq_At mq_G (mq_tT lL) 232 1147 [some (.retAddr 0), some (.retAddr 4), some (.retAddr 59), some (.int (nI i))] [] h2 Q) : mq_At mq_G (mq_tT lL) 232 867 [some (.retAddr 0), some (.retAddr 4), some (.retAddr 59), some (.int (nI i))] [] h Q := by
  apply mq_go 150 [1147]
  refine gq_i (J 1 (by omega)) ?_
  refine gq_i (J 2 (by omega)) ?_
  refine w_122 I (fun r1 h1 R1 s1 => ?_)
  refine gq_i (J 1 (by omega)) ?_
  refine gq_i (J 2 (by omega)) ?_
  refine w_209 R1.1 (fun r2 h2 R2 s2 => ?_)
  exact K h2 R2.1 (s2 (s1 R)) (by have := R1.2.1; have := R2.2.1; omega) (by have := R1.2.2.1; have := R2.2.2.1; omega)
theorem w_123 (I : ck_Iv x_X h) {x1 x2 x3 : Int32} (hq : ∀ (r : Int32) h', x_R0 h h' → (y_G h → y_G h') → Q (some (.int r)) h') : mq_Call mq_G (mq_tT lL) 123 [.retAddr 4, .int x1, .int x2, .int x3] h Q := by
  refine mq_Call.mono (kv_123 h _ I ⟨rfl, ⟨_, rfl, ci_rng _⟩, ⟨_, rfl, ci_rng _⟩, ⟨_, rfl, ci_rng _⟩, trivial⟩) (fun v h2 ⟨I2, m2, r, er, _, _⟩ => ?_)
  subst er
  exact hq r h2 (x_R0.md I2 m2 (by decide)) (y_G.md m2 (by decide) (by decide) (by decide) (by decide) I)
theorem w_211 (I : ck_Iv x_X h) {x1 x2 x3 : Int32} (hq : ∀ (r : Int32) h', x_R0 h h' → (y_G h → y_G h') → Q (some (.int r)) h') : mq_Call mq_G (mq_tT lL) 211 [.retAddr 59, .int x1, .int x2, .int x3] h Q := by
  refine mq_Call.mono (kv_211 h _ I ⟨rfl, ⟨_, rfl, ci_rng _⟩, ⟨_, rfl, ci_rng _⟩, ⟨_, rfl, ci_rng _⟩, trivial⟩) (fun v h2 ⟨I2, m2, r, er, _, _⟩ => ?_)
  subst er
  exact hq r h2 (x_R0.md I2 m2 (by decide)) (y_G.md m2 (by decide) (by decide) (by decide) (by decide) I)
theorem lw_c18 (I : ck_Iv x_X h) (R : y_G h) (J0 : mq_inb (nI i) lL = true) (J : ∀ j, j < 8 → mq_inb (nI i + nI j) lL = true) (K : ∀ h2, ck_Iv x_X h2 → y_G h2 → mq_N h2 ≤ mq_N h + 200 → mq_Z h2 ≤ mq_Z h + 40000 → mq_At mq_G (mq_tT lL) 232 1147 [some (.retAddr 0), some (.retAddr 4), some (.retAddr 59), some (.int (nI i))] [] h2 Q) : mq_At mq_G (mq_tT lL) 232 900 [some (.retAddr 0), some (.retAddr 4), some (.retAddr 59), some (.int (nI i))] [] h Q := by
  apply mq_go 150 [1147]
  refine gq_i (J 1 (by omega)) ?_
  refine gq_i (J 2 (by omega)) ?_
  refine gq_i (J 3 (by omega)) ?_
  refine w_123 I (fun r1 h1 R1 s1 => ?_)
  refine gq_i (J 1 (by omega)) ?_
  refine gq_i (J 2 (by omega)) ?_
  refine gq_i (J 3 (by omega)) ?_
  refine w_211 R1.1 (fun r2 h2 R2 s2 => ?_)
  exact K h2 R2.1 (s2 (s1 R)) (by have := R1.2.1; have := R2.2.1; omega) (by have := R1.2.2.1; have := R2.2.2.1; omega)
theorem w_124 (I : ck_Iv x_X h) {x1 x2 : Int32} (hq : ∀ (r : Int32) h', x_R0 h h' → (y_G h → y_G h') → Q (some (.int r)) h') : mq_Call mq_G (mq_tT lL) 124 [.retAddr 4, .int x1, .int x2] h Q := by
  refine mq_Call.mono (kv_124 h _ I ⟨rfl, ⟨_, rfl, ci_rng _⟩, ⟨_, rfl, ci_rng _⟩, trivial⟩) (fun v h2 ⟨I2, m2, r, er, _, _⟩ => ?_)
  subst er
  exact hq r h2 (x_R0.md I2 m2 (by decide)) (y_G.md m2 (by decide) (by decide) (by decide) (by decide) I)
theorem w_213 (I : ck_Iv x_X h) {x1 x2 : Int32} (hq : ∀ (r : Int32) h', x_R0 h h' → (y_G h → y_G h') → Q (some (.int r)) h') : mq_Call mq_G (mq_tT lL) 213 [.retAddr 59, .int x1, .int x2] h Q := by
  refine mq_Call.mono (kv_213 h _ I ⟨rfl, ⟨_, rfl, ci_rng _⟩, ⟨_, rfl, ci_rng _⟩, trivial⟩) (fun v h2 ⟨I2, m2, r, er, _, _⟩ => ?_)
  subst er
  exact hq r h2 (x_R0.md I2 m2 (by decide)) (y_G.md m2 (by decide) (by decide) (by decide) (by decide) I)
theorem lw_c19 (I : ck_Iv x_X h) (R : y_G h) (J0 : mq_inb (nI i) lL = true) (J : ∀ j, j < 8 → mq_inb (nI i + nI j) lL = true) (K : ∀ h2, ck_Iv x_X h2 → y_G h2 → mq_N h2 ≤ mq_N h + 200 → mq_Z h2 ≤ mq_Z h + 40000 → mq_At mq_G (mq_tT lL) 232 1147 [some (.retAddr 0), some (.retAddr 4), some (.retAddr 59), some (.int (nI i))] [] h2 Q) : mq_At mq_G (mq_tT lL) 232 943 [some (.retAddr 0), some (.retAddr 4), some (.retAddr 59), some (.int (nI i))] [] h Q := by
  apply mq_go 150 [1147]
  refine gq_i (J 1 (by omega)) ?_
  refine gq_i (J 2 (by omega)) ?_
  refine w_124 I (fun r1 h1 R1 s1 => ?_)
  refine gq_i (J 1 (by omega)) ?_
  refine gq_i (J 2 (by omega)) ?_
  refine w_213 R1.1 (fun r2 h2 R2 s2 => ?_)
  exact K h2 R2.1 (s2 (s1 R)) (by have := R1.2.1; have := R2.2.1; omega) (by have := R1.2.2.1; have := R2.2.2.1; omega)
theorem w_125 (I : ck_Iv x_X h) {x1 : Int32} (hq : ∀ (r : Int32) h', x_R0 h h' → (y_G h → y_G h') → Q (some (.int r)) h') : mq_Call mq_G (mq_tT lL) 125 [.retAddr 4, .int x1] h Q := by
  refine mq_Call.mono (kv_125 h _ I ⟨rfl, ⟨_, rfl, ci_rng _⟩, trivial⟩) (fun v h2 ⟨I2, m2, r, er, _, _⟩ => ?_)
  subst er
  exact hq r h2 (x_R0.md I2 m2 (by decide)) (y_G.md m2 (by decide) (by decide) (by decide) (by decide) I)
theorem w_214 (I : ck_Iv x_X h) {x1 : Int32} (hq : ∀ (r : Int32) h', x_R0 h h' → (y_G h → y_G h') → Q (some (.int r)) h') : mq_Call mq_G (mq_tT lL) 214 [.retAddr 59, .int x1] h Q := by
  refine mq_Call.mono (kv_214 h _ I ⟨rfl, ⟨_, rfl, ci_rng _⟩, trivial⟩) (fun v h2 ⟨I2, m2, r, er, _, _⟩ => ?_)
  subst er
  exact hq r h2 (x_R0.md I2 m2 (by decide)) (y_G.md m2 (by decide) (by decide) (by decide) (by decide) I)
theorem lw_c20 (I : ck_Iv x_X h) (R : y_G h) (J0 : mq_inb (nI i) lL = true) (J : ∀ j, j < 8 → mq_inb (nI i + nI j) lL = true) (K : ∀ h2, ck_Iv x_X h2 → y_G h2 → mq_N h2 ≤ mq_N h + 200 → mq_Z h2 ≤ mq_Z h + 40000 → mq_At mq_G (mq_tT lL) 232 1147 [some (.retAddr 0), some (.retAddr 4), some (.retAddr 59), some (.int (nI i))] [] h2 Q) : mq_At mq_G (mq_tT lL) 232 976 [some (.retAddr 0), some (.retAddr 4), some (.retAddr 59), some (.int (nI i))] [] h Q := by
  apply mq_go 150 [1147]
  refine gq_i (J 1 (by omega)) ?_
  refine w_125 I (fun r1 h1 R1 s1 => ?_)
  refine gq_i (J 1 (by omega)) ?_
  refine w_214 R1.1 (fun r2 h2 R2 s2 => ?_)
  exact K h2 R2.1 (s2 (s1 R)) (by have := R1.2.1; have := R2.2.1; omega) (by have := R1.2.2.1; have := R2.2.2.1; omega)
theorem w_126 (I : ck_Iv x_X h) {x1 x2 x3 : Int32} (hq : ∀ (r : Int32) h', x_R0 h h' → (y_G h → y_G h') → Q (some (.int r)) h') : mq_Call mq_G (mq_tT lL) 126 [.retAddr 4, .int x1, .int x2, .int x3] h Q := by
  refine mq_Call.mono (kv_126 h _ I ⟨rfl, ⟨_, rfl, ci_rng _⟩, ⟨_, rfl, ci_rng _⟩, ⟨_, rfl, ci_rng _⟩, trivial⟩) (fun v h2 ⟨I2, m2, r, er, _, _⟩ => ?_)
  subst er
  exact hq r h2 (x_R0.md I2 m2 (by decide)) (y_G.md m2 (by decide) (by decide) (by decide) (by decide) I)
theorem w_220 (I : ck_Iv x_X h) {x1 x2 x3 : Int32} (hq : ∀ (r : Int32) h', x_R0 h h' → (y_G h → y_G h') → Q (some (.int r)) h') : mq_Call mq_G (mq_tT lL) 220 [.retAddr 59, .int x1, .int x2, .int x3] h Q := by
  refine mq_Call.mono (kv_220 h _ I ⟨rfl, ⟨_, rfl, ci_rng _⟩, ⟨_, rfl, ci_rng _⟩, ⟨_, rfl, ci_rng _⟩, trivial⟩) (fun v h2 ⟨I2, m2, r, er, _, _⟩ => ?_)
  subst er
  exact hq r h2 (x_R0.md I2 m2 (by decide)) (y_G.md m2 (by decide) (by decide) (by decide) (by decide) I)
theorem lw_c21 (I : ck_Iv x_X h) (R : y_G h) (J0 : mq_inb (nI i) lL = true) (J : ∀ j, j < 8 → mq_inb (nI i + nI j) lL = true) (K : ∀ h2, ck_Iv x_X h2 → y_G h2 → mq_N h2 ≤ mq_N h + 200 → mq_Z h2 ≤ mq_Z h + 40000 → mq_At mq_G (mq_tT lL) 232 1147 [some (.retAddr 0), some (.retAddr 4), some (.retAddr 59), some (.int (nI i))] [] h2 Q) : mq_At mq_G (mq_tT lL) 232 999 [some (.retAddr 0), some (.retAddr 4), some (.retAddr 59), some (.int (nI i))] [] h Q := by
  apply mq_go 150 [1147]
  refine gq_i (J 1 (by omega)) ?_
  refine gq_i (J 2 (by omega)) ?_
  refine gq_i (J 3 (by omega)) ?_
  refine w_126 I (fun r1 h1 R1 s1 => ?_)
  refine gq_i (J 1 (by omega)) ?_
  refine gq_i (J 2 (by omega)) ?_
  refine gq_i (J 3 (by omega)) ?_
  refine w_220 R1.1 (fun r2 h2 R2 s2 => ?_)
  exact K h2 R2.1 (s2 (s1 R)) (by have := R1.2.1; have := R2.2.1; omega) (by have := R1.2.2.1; have := R2.2.2.1; omega)
theorem w_127 (I : ck_Iv x_X h) {x1 x2 x3 : Int32} (hq : ∀ (r : Int32) h', x_R0 h h' → (y_G h → y_G h') → Q (some (.int r)) h') : mq_Call mq_G (mq_tT lL) 127 [.retAddr 4, .int x1, .int x2, .int x3] h Q := by
  refine mq_Call.mono (kv_127 h _ I ⟨rfl, ⟨_, rfl, ci_rng _⟩, ⟨_, rfl, ci_rng _⟩, ⟨_, rfl, ci_rng _⟩, trivial⟩) (fun v h2 ⟨I2, m2, r, er, _, _⟩ => ?_)
  subst er
  exact hq r h2 (x_R0.md I2 m2 (by decide)) (y_G.md m2 (by decide) (by decide) (by decide) (by decide) I)
theorem w_222 (I : ck_Iv x_X h) {x1 x2 x3 : Int32} (hq : ∀ (r : Int32) h', x_R0 h h' → (y_G h → y_G h') → Q (some (.int r)) h') : mq_Call mq_G (mq_tT lL) 222 [.retAddr 59, .int x1, .int x2, .int x3] h Q := by
  refine mq_Call.mono (kv_222 h _ I ⟨rfl, ⟨_, rfl, ci_rng _⟩, ⟨_, rfl, ci_rng _⟩, ⟨_, rfl, ci_rng _⟩, trivial⟩) (fun v h2 ⟨I2, m2, r, er, _, _⟩ => ?_)
  subst er
  exact hq r h2 (x_R0.md I2 m2 (by decide)) (y_G.md m2 (by decide) (by decide) (by decide) (by decide) I)
theorem lw_c22 (I : ck_Iv x_X h) (R : y_G h) (J0 : mq_inb (nI i) lL = true) (J : ∀ j, j < 8 → mq_inb (nI i + nI j) lL = true) (K : ∀ h2, ck_Iv x_X h2 → y_G h2 → mq_N h2 ≤ mq_N h + 200 → mq_Z h2 ≤ mq_Z h + 40000 → mq_At mq_G (mq_tT lL) 232 1147 [some (.retAddr 0), some (.retAddr 4), some (.retAddr 59), some (.int (nI i))] [] h2 Q) : mq_At mq_G (mq_tT lL) 232 1042 [some (.retAddr 0), some (.retAddr 4), some (.retAddr 59), some (.int (nI i))] [] h Q := by
  apply mq_go 150 [1147]
  refine gq_i (J 1 (by omega)) ?_
  refine gq_i (J 2 (by omega)) ?_
  refine gq_i (J 3 (by omega)) ?_
  refine w_127 I (fun r1 h1 R1 s1 => ?_)
  refine gq_i (J 1 (by omega)) ?_
  refine gq_i (J 2 (by omega)) ?_
  refine gq_i (J 3 (by omega)) ?_
  refine w_222 R1.1 (fun r2 h2 R2 s2 => ?_)
  exact K h2 R2.1 (s2 (s1 R)) (by have := R1.2.1; have := R2.2.1; omega) (by have := R1.2.2.1; have := R2.2.2.1; omega)
theorem w_128 (I : ck_Iv x_X h) {x1 : Int32} (b1 : x1 = 0 ∨ x1 = 1) (hq : ∀ (r : Int32) h', x_R0 h h' → (y_ci x1 h r h') → Q (some (.int r)) h') : mq_Call mq_G (mq_tT lL) 128 [.retAddr 4, .int x1] h Q := by
  exact x_cimage I b1 (fun v h2 I2 f2 N2 Z2 ci => hq v h2 ⟨I2, N2, Z2, f2⟩ ci)
theorem w_226 (I : ck_Iv x_X h) {x1 : Int32} (b1 : x1 = 0 ∨ x1 = 1) (hq : ∀ (r : Int32) h', x_R0 h h' → (y_mi x1 h r h') → Q (some (.int r)) h') : mq_Call mq_G (mq_tT lL) 226 [.retAddr 59, .int x1] h Q := by
  exact y_mimage I b1 (fun v h2 I2 N2 Z2 e0 mi => hq v h2 ⟨I2, by omega, by omega, e0⟩ mi)
theorem lw_c23 (I : ck_Iv x_X h) (R : y_G h) (J0 : mq_inb (nI i) lL = true) (J : ∀ j, j < 8 → mq_inb (nI i + nI j) lL = true) (K : ∀ h2, ck_Iv x_X h2 → y_G h2 → mq_N h2 ≤ mq_N h + 200 → mq_Z h2 ≤ mq_Z h + 40000 → mq_At mq_G (mq_tT lL) 232 1147 [some (.retAddr 0), some (.retAddr 4), some (.retAddr 59), some (.int (nI i))] [] h2 Q) : mq_At mq_G (mq_tT lL) 232 1085 [some (.retAddr 0), some (.retAddr 4), some (.retAddr 59), some (.int (nI i))] [] h Q := by
  apply mq_go 150 [1147]
  refine gq_i (J 1 (by omega)) ?_
  refine bq_c (fun c1 => ?_) (fun c1 => ?_)
  · refine w_128 I (Or.inl rfl) (fun r1 h1 R1 s1 => ?_)
    refine gq_i (J 1 (by omega)) ?_
    refine bq_c (fun c2 => ?_) (fun c2 => ?_)
    · refine w_226 R1.1 (Or.inl rfl) (fun r2 h2 R2 s2 => ?_)
      obtain ⟨er, G2⟩ := y_x_image R s1 s2
      exact K h2 R2.1 G2 (by have := R1.2.1; have := R2.2.1; omega) (by have := R1.2.2.1; have := R2.2.2.1; omega)
    · exact absurd ((congrFun R1.2.2.2 _).trans c1) c2
  · refine w_128 I (Or.inr rfl) (fun r1 h1 R1 s1 => ?_)
    refine gq_i (J 1 (by omega)) ?_
    refine bq_c (fun c2 => ?_) (fun c2 => ?_)
    · exact absurd ((congrFun R1.2.2.2 _).symm.trans c2) c1
    · refine w_226 R1.1 (Or.inr rfl) (fun r2 h2 R2 s2 => ?_)
      obtain ⟨er, G2⟩ := y_x_image R s1 s2
      exact K h2 R2.1 G2 (by have := R1.2.1; have := R2.2.1; omega) (by have := R1.2.2.1; have := R2.2.2.1; omega)
theorem w_129 (I : ck_Iv x_X h) {x1 : Int32} (hq : ∀ (r : Int32) h', x_R0 h h' → (y_G h → y_G h') → Q (some (.int r)) h') : mq_Call mq_G (mq_tT lL) 129 [.retAddr 4, .int x1] h Q := by
  refine mq_Call.mono (kv_129 h _ I ⟨rfl, ⟨_, rfl, ci_rng _⟩, trivial⟩) (fun v h2 ⟨I2, m2, r, er, _, _⟩ => ?_)
  subst er
  exact hq r h2 (x_R0.md I2 m2 (by decide)) (y_G.md m2 (by decide) (by decide) (by decide) (by decide) I)
theorem w_228 (I : ck_Iv x_X h) {x1 : Int32} (hq : ∀ (r : Int32) h', x_R0 h h' → (y_G h → y_G h') → Q (some (.int r)) h') : mq_Call mq_G (mq_tT lL) 228 [.retAddr 59, .int x1] h Q := by
  refine mq_Call.mono (kv_228 h _ I ⟨rfl, ⟨_, rfl, ci_rng _⟩, trivial⟩) (fun v h2 ⟨I2, m2, r, er, _, _⟩ => ?_)
  subst er
  exact hq r h2 (x_R0.md I2 m2 (by decide)) (y_G.md m2 (by decide) (by decide) (by decide) (by decide) I)
theorem lw_c24 (I : ck_Iv x_X h) (R : y_G h) (J0 : mq_inb (nI i) lL = true) (J : ∀ j, j < 8 → mq_inb (nI i + nI j) lL = true) (K : ∀ h2, ck_Iv x_X h2 → y_G h2 → mq_N h2 ≤ mq_N h + 200 → mq_Z h2 ≤ mq_Z h + 40000 → mq_At mq_G (mq_tT lL) 232 1147 [some (.retAddr 0), some (.retAddr 4), some (.retAddr 59), some (.int (nI i))] [] h2 Q) : mq_At mq_G (mq_tT lL) 232 1124 [some (.retAddr 0), some (.retAddr 4), some (.retAddr 59), some (.int (nI i))] [] h Q := by
  apply mq_go 150 [1147]
  refine gq_i (J 1 (by omega)) ?_
  refine w_129 I (fun r1 h1 R1 s1 => ?_)
  refine gq_i (J 1 (by omega)) ?_
  refine w_228 R1.1 (fun r2 h2 R2 s2 => ?_)
  exact K h2 R2.1 (s2 (s1 R)) (by have := R1.2.1; have := R2.2.1; omega) (by have := R1.2.2.1; have := R2.2.2.1; omega)
theorem lw_loop : ∀ (m c : Nat) (y : Int32) (h : mq_H), c + m = 65 → lL ≤ 512 → c ≤ 64 → y = nI (8 * c) → ck_Iv x_X h → y_G h → mq_N h ≤ 100 + 200 * c → mq_Z h ≤ 34912 + 40000 * c → mq_At mq_G (mq_tT lL) 232 18 [some (.retAddr 0), some (.retAddr 4), some (.retAddr 59), some (.int y)] [] h (fun v h => v = some (.int 1) ∧ mq_N h ≤ 600000 ∧ mq_Z h ≤ 7302250) := by
  intro m
  induction m with
  | zero => intro c y h hc hL hc2; omega
  | succ m ih =>
    intro c y h hc hL hc2 ey I R hN hZ
    subst ey
    have e8 : (nI lL - 8).toInt = (lL : Int) - 8 := by
      rw [ci_sub (y := 8) (by rw [nI_toInt (by omega)]; exact ⟨by show (-2147483648 : Int) ≤ _ - 8; omega, by show _ - (8 : Int) ≤ _; omega⟩), nI_toInt (by omega)]
      rfl
    apply mq_go 20 [33, 1153]
    refine gq_i rfl ?_
    refine bq_c (fun gt => ?_) (fun le => ?_)
    · apply mq_go 20 []
      refine gq_i rfl ?_
      exact ⟨rfl, by omega, by omega⟩
    · have le : ¬ nI lL - 8 < nI (8 * c) := le
      rw [lt_i, e8, nI_toInt (by omega)] at le
      have J0 : mq_inb (nI (8 * c)) lL = true := inb_nI (by omega) (by omega)
      have J : ∀ j, j < 8 → mq_inb (nI (8 * c) + nI j) lL = true := fun j hj => x_inb (nI_add _ _) (by omega) (by omega)
      refine gq_i J0 ?_
      have K : ∀ h2, ck_Iv x_X h2 → y_G h2 → mq_N h2 ≤ mq_N h + 200 → mq_Z h2 ≤ mq_Z h + 40000 → mq_At mq_G (mq_tT lL) 232 1147 [some (.retAddr 0), some (.retAddr 4), some (.retAddr 59), some (.int (nI (8 * c)))] [] h2 (fun v h => v = some (.int 1) ∧ mq_N h ≤ 600000 ∧ mq_Z h ≤ 7302250) := fun h2 I2 G2 N2 Z2 => by
        apply mq_go 20 [18]
        exact ih (c + 1) _ h2 (by omega) hL (by omega) (by show nI (8 * c) + nI 8 = _; rw [nI_add]; rfl) I2 G2 (by omega) (by rw [show 34912 + 40000 * (c + 1) = 34912 + 40000 * c + 40000 by rw [Nat.mul_add, Nat.mul_one, Nat.add_assoc]]; exact Nat.le_trans Z2 (Nat.add_le_add_right hZ 40000))
      apply mq_go 1 []
      refine bq_c (fun _ => lw_c0 I R J0 J K) (fun _ => ?_)
      refine bq_c (fun _ => lw_c1 I R J0 J K) (fun _ => ?_)
      refine bq_c (fun _ => lw_c2 I R J0 J K) (fun _ => ?_)
      refine bq_c (fun _ => lw_c3 I R J0 J K) (fun _ => ?_)
      refine bq_c (fun _ => lw_c4 I R J0 J K) (fun _ => ?_)
      refine bq_c (fun _ => lw_c5 I R J0 J K) (fun _ => ?_)
      refine bq_c (fun _ => lw_c6 I R J0 J K) (fun _ => ?_)
      refine bq_c (fun _ => lw_c7 I R J0 J K) (fun _ => ?_)
      refine bq_c (fun _ => lw_c8 I R J0 J K) (fun _ => ?_)
      refine bq_c (fun _ => lw_c9 I R J0 J K) (fun _ => ?_)
      refine bq_c (fun _ => lw_c10 I R J0 J K) (fun _ => ?_)
      refine bq_c (fun _ => lw_c11 I R J0 J K) (fun _ => ?_)
      refine bq_c (fun _ => lw_c12 I R J0 J K) (fun _ => ?_)
      refine bq_c (fun _ => lw_c13 I R J0 J K) (fun _ => ?_)
      refine bq_c (fun _ => lw_c14 I R J0 J K) (fun _ => ?_)
      refine bq_c (fun _ => lw_c15 I R J0 J K) (fun _ => ?_)
      refine bq_c (fun _ => lw_c16 I R J0 J K) (fun _ => ?_)
      refine bq_c (fun _ => lw_c17 I R J0 J K) (fun _ => ?_)
      refine bq_c (fun _ => lw_c18 I R J0 J K) (fun _ => ?_)
      refine bq_c (fun _ => lw_c19 I R J0 J K) (fun _ => ?_)
      refine bq_c (fun _ => lw_c20 I R J0 J K) (fun _ => ?_)
      refine bq_c (fun _ => lw_c21 I R J0 J K) (fun _ => ?_)
      refine bq_c (fun _ => lw_c22 I R J0 J K) (fun _ => ?_)
      refine bq_c (fun _ => lw_c23 I R J0 J K) (fun _ => ?_)
      refine bq_c (fun _ => lw_c24 I R J0 J K) (fun _ => ?_)
      exact K h I R (by omega) (by omega)
end PL
