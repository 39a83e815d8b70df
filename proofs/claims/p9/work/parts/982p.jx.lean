/-! text, image, fault: the joints over the tapes -/
section ZQ
variable {lL : Nat} {h h1 h2 : mq_H} {Q : Option Value → mq_H → Prop} {b : Nat → Int} {n : Nat}
def z_pc_text (x : Int32) (h : mq_H) (r : Int32) (h2 : mq_H) : Prop := (x_cf x_CtM h h2 ∧ mq_I h2 35 1 = 0) ∧ ∀ (b : Nat → Int) (n : Nat), z_TC h b n → z_tx b n x r (mq_I h2 35 2) (mq_I h2 35 3)
def z_pm_text (x : Int32) (h : mq_H) (r : Int32) (h2 : mq_H) : Prop := (ck_md x_XM h h2 ∧ mq_I h2 59 25 = 0) ∧ ∀ (b : Nat → Int) (n : Nat), z_TM h b n → z_tx b n x r (mq_I h2 59 45) (mq_I h2 59 46)
theorem z_ctp (hN : 100 ≤ mq_N h) {x : Int32} (N : Nat) : mq_PC mq_G (mq_tT lL) N 109 [.retAddr 4, .int x] h (fun v h2 => ∀ (b : Nat → Int) (n : Nat), z_TC h b n → ∃ r, v = some (.int r) ∧ z_tx b n x r (mq_I h2 35 2) (mq_I h2 35 3)) :=
  fun L hL f hf v h2 hr b n TC => z_ctext TC hN N L hL f hf v h2 hr
theorem z_mtp {x : Int32} (N : Nat) : mq_PC mq_G (mq_tT lL) N 177 [.retAddr 59, .int x] h (fun v h2 => ∀ (b : Nat → Int) (n : Nat), z_TM h b n → ∃ r, v = some (.int r) ∧ z_tx b n x r (mq_I h2 59 45) (mq_I h2 59 46)) :=
  fun L hL f hf v h2 hr b n TM => z_mtext TM N L hL f hf v h2 hr
theorem z_wc_text (I : ck_Iv x_X h) {x : Int32} (hq : ∀ (r : Int32) h2, ck_Iv x_X h2 → x_cf x_CtM h h2 → mq_N h2 ≤ mq_N h + 40 → mq_Z h2 ≤ mq_Z h + 8000 → z_pc_text x h r h2 → Q (some (.int r)) h2) : mq_Call mq_G (mq_tT lL) 109 [.retAddr 4, .int x] h Q := by
  refine mq_Call.mono (mq_Call.and (x_ctext (Q := fun v h2 => ∃ r, v = some (.int r) ∧ ck_Iv x_X h2 ∧ x_cf x_CtM h h2 ∧ mq_N h2 ≤ mq_N h + 40 ∧ mq_Z h2 ≤ mq_Z h + 8000 ∧ mq_I h2 35 1 = 0) I (fun v h2 a b c d e => ⟨v, rfl, a, b, c, d, e⟩)) (z_ctp I.2.2.1.1)) (fun v h2 ⟨⟨r, er, I2, f2, N2, Z2, l2⟩, sp⟩ => ?_)
  subst er
  refine hq r h2 I2 f2 N2 Z2 ⟨⟨f2, l2⟩, fun b n T => ?_⟩
  obtain ⟨r', e, z⟩ := sp b n T
  rw [y_vi e]
  exact z
theorem z_wm_text (I : ck_Iv x_X h) {x : Int32} (hq : ∀ (r : Int32) h2, ck_Iv x_X h2 → ck_md x_XM h h2 → z_pm_text x h r h2 → Q (some (.int r)) h2) : mq_Call mq_G (mq_tT lL) 177 [.retAddr 59, .int x] h Q := by
  refine mq_Call.mono (mq_Call.and (mq_Call.and (x_mtext (Q := fun v h2 => ∃ r, v = some (.int r) ∧ ck_Iv x_X h2 ∧ ck_md x_XM h h2) I (fun v h2 I2 m2 => ⟨v, rfl, I2, m2⟩)) (y_m_text I)) z_mtp) (fun v h2 ⟨⟨⟨r, er, I2, m2⟩, t0⟩, sp⟩ => ?_)
  subst er
  refine hq r h2 I2 m2 ⟨⟨m2, t0⟩, fun b n T => ?_⟩
  obtain ⟨r', e, z⟩ := sp b n T
  rw [y_vi e]
  exact z
def z_FQ (h : mq_H) : Prop := mq_I h 35 2 = mq_I h 59 45 ∧ mq_I h 35 3 = mq_I h 59 46
theorem z_FQ.fr (T : z_FQ h) (f1 : mq_I h2 35 2 = mq_I h 35 2) (f2 : mq_I h2 59 45 = mq_I h 59 45) (f3 : mq_I h2 35 3 = mq_I h 35 3) (f4 : mq_I h2 59 46 = mq_I h 59 46) : z_FQ h2 := ⟨f1.trans (T.1.trans f2.symm), f3.trans (T.2.trans f4.symm)⟩
theorem z_l_text {x r1 r2 : Int32} (T : z_TP h) (I : ck_Iv x_X h) (I1 : ck_Iv x_X h1) (s1 : z_pc_text x h r1 h1) (s2 : z_pm_text x h1 r2 h2) : r1 = r2 ∧ z_TP h2 ∧ z_FQ h2 := by
  obtain ⟨n, n4, t1, t2, T⟩ := T
  have h100 := I.2.2.1.1
  have TC : z_TC h (fun i => (mq_I h 80 i).toInt) n := ⟨t1, n4, T⟩
  have q1 : mq_I h1 59 25 = mq_I h 59 25 := s1.1.1.1 59 25 (by omega) (by decide)
  have q2 : ∀ i, mq_I h1 80 i = mq_I h 80 i := fun i => s1.1.1.1 80 i (by omega) (show Nat.testBit _ (ck_lca 80) = false by decide)
  have TM : z_TM h1 (fun i => (mq_I h 80 i).toInt) n := ⟨q1.trans t2, n4, fun i hi => ⟨congrArg Int32.toInt (q2 i), (T i hi).2⟩, I1.2.2.2.1⟩
  obtain ⟨e1, e2, e3⟩ := z_tx_fn (s1.2 _ _ TC) (s2.2 _ _ TM)
  have g1 := s2.1.1.2.2.2.2 35 2 (by decide)
  have g2 := s2.1.1.2.2.2.2 35 3 (by decide)
  have g3 := s2.1.1.2.2.2.2 35 1 (by decide)
  exact ⟨e1, ⟨0, by omega, g3.trans s1.1.2, s2.1.2, fun i hi => by omega⟩, g1.trans e2, g2.trans e3⟩
theorem z_fr_image {x r1 r2 : Int32} (C : y_ci x h r1 h1) (D : y_mi x h1 r2 h2) {a k : Nat} (h35 : 35 ≤ a) (h99 : a < 99) (hb : Nat.testBit kc_45.2.2 (ck_lc a k) = false) (hp : x_pos a k = none) (hs : ¬ x_sp a k) : mq_I h2 a k = mq_I h a k := by
  have c : mq_I h1 a k = mq_I h a k := by
    rcases C with ⟨-, -, -, rfl⟩ | ⟨-, -, b, -, -, -, -, c2⟩ | ⟨-, -, b, -, -, -, c2⟩
    · rfl
    · exact c2 a k hb h35
    · exact c2 a k (by omega)
  rw [← c]
  rcases D with ⟨-, -, -, rfl⟩ | ⟨-, tk, -, -, s1, s2, s3, s4, s5, s6, s7, s8, s9, s10⟩
  · exact ck_setI_at (fun z => hs (by obtain ⟨za, zk⟩ := z; exact ⟨za, Or.inl zk⟩))
  · cases tk with
    | true => exact (s9 rfl).1 a k (by omega) hs
    | false => exact ((s10 rfl).2 a k (by omega) hs).2 (fun q z => by rw [hp] at z; cases z)
theorem z_nsp {a k : Nat} (h : ¬ a = 59) : ¬ x_sp a k := fun z => h z.1
theorem z_l_image {x r1 r2 : Int32} (T : z_TP h) (C : y_ci x h r1 h1) (D : y_mi x h1 r2 h2) : z_TP h2 :=
  T.fr (z_fr_image C D (by decide) (by decide) (by decide) rfl (z_nsp (by decide))) (z_fr_image C D (by decide) (by decide) (by decide) rfl (fun z => by rcases z.2 with e | e | e | e <;> cases e)) (fun k => z_fr_image C D (by decide) (by decide) (show Nat.testBit _ (ck_lca 36) = false by decide) rfl (z_nsp (by decide))) (fun k => z_fr_image C D (by decide) (by decide) (show Nat.testBit _ (ck_lca 80) = false by decide) (by
    cases z : x_pos 80 k with
    | none => rfl
    | some q => rcases x_pos_cs z with ⟨e, -⟩ | ⟨e, -⟩ | ⟨e, -⟩ | ⟨e, -⟩ | ⟨e, -⟩ | ⟨e, -⟩ | ⟨e, -⟩ | ⟨e, -⟩ | ⟨e, -⟩ | ⟨e, -⟩ | ⟨e, -⟩ | ⟨e, -⟩ | ⟨e, -⟩ | ⟨e, -⟩ | ⟨e, -⟩ | ⟨e, -⟩ | ⟨e, -⟩ | ⟨e, -⟩ | ⟨e, -⟩ | ⟨e, -⟩ | ⟨e, -⟩ | ⟨e, -⟩ | ⟨e, -⟩ | ⟨e, -⟩ | ⟨e, -⟩ | ⟨e, -⟩ | ⟨e, -⟩ | ⟨e, -⟩ | ⟨e, -⟩ | ⟨e, -⟩ | ⟨e, -⟩ <;> cases e) (z_nsp (by decide)))
theorem z_q_image {x r1 r2 : Int32} (T : z_FQ h) (C : y_ci x h r1 h1) (D : y_mi x h1 r2 h2) : z_FQ h2 :=
  T.fr (z_fr_image C D (by decide) (by decide) (by decide) rfl (z_nsp (by decide))) (z_fr_image C D (by decide) (by decide) (by decide) rfl (fun z => by rcases z.2 with e | e | e | e <;> cases e)) (z_fr_image C D (by decide) (by decide) (by decide) rfl (z_nsp (by decide))) (z_fr_image C D (by decide) (by decide) (by decide) rfl (fun z => by rcases z.2 with e | e | e | e <;> cases e))
theorem z_TP.md {M : Nat} (m : ck_md M h h2) (c1 : Nat.testBit M (ck_lc 35 1) = false) (c2 : Nat.testBit M (ck_lc 59 25) = false) (c3 : Nat.testBit M (ck_lca 36) = false) (c4 : Nat.testBit M (ck_lca 80) = false) (T : z_TP h) : z_TP h2 := T.fr (m.2.2.2.2 _ _ c1) (m.2.2.2.2 _ _ c2) (fun k => m.2.2.2.2 36 k c3) (fun k => m.2.2.2.2 80 k c4)
theorem z_FQ.md {M : Nat} (m : ck_md M h h2) (c1 : Nat.testBit M (ck_lc 35 2) = false) (c2 : Nat.testBit M (ck_lc 59 45) = false) (c3 : Nat.testBit M (ck_lc 35 3) = false) (c4 : Nat.testBit M (ck_lc 59 46) = false) (T : z_FQ h) : z_FQ h2 := T.fr (m.2.2.2.2 _ _ c1) (m.2.2.2.2 _ _ c2) (m.2.2.2.2 _ _ c3) (m.2.2.2.2 _ _ c4)
/-- fault -/
def z_ff (x k p : Int32) : Int32 := if x = 0 then k else if x = 1 then p else -1
def z_pc_fault (x : Int32) (h : mq_H) (v : Option Value) (_ : mq_H) : Prop := v = some (.int (z_ff x (mq_I h 35 2) (mq_I h 35 3)))
def z_pm_fault (x : Int32) (h : mq_H) (v : Option Value) (_ : mq_H) : Prop := v = some (.int (z_ff x (mq_I h 59 45) (mq_I h 59 46)))
theorem z_c_fault (_ : ck_Iv x_X h) {x : Int32} (N : Nat) : mq_PC mq_G (mq_tT lL) N 110 [.retAddr 4, .int x] h (z_pc_fault x h) := by
  revert N
  unfold z_pc_fault z_ff
  refine mq_el_in 60 [] (fun N => ?_)
  refine bn_c (fun e => ?_) (fun e => ?_)
  · rw [if_neg e]
    refine bn_c (fun e2 => ?_) (fun e2 => ?_)
    · rw [if_neg e2]
      rfl
    · rw [if_pos e2]
      rfl
  · rw [if_pos e]
    rfl
theorem z_m_fault (_ : ck_Iv x_X h) {x : Int32} (N : Nat) : mq_PC mq_G (mq_tT lL) N 178 [.retAddr 59, .int x] h (z_pm_fault x h) := by
  revert N
  unfold z_pm_fault z_ff
  refine mq_el_in 60 [] (fun N => ?_)
  refine bn_c (fun e => ?_) (fun e => ?_)
  · rw [if_neg e]
    refine bn_c (fun e2 => ?_) (fun e2 => ?_)
    · rw [if_neg e2]
      rfl
    · rw [if_pos e2]
      rfl
  · rw [if_pos e]
    rfl
theorem z_a_fault {x r1 r2 : Int32} (T : z_FQ h) (m1 : ck_md kc_110.2.2 h h1) (s1 : z_pc_fault x h (some (.int r1)) h1) (s2 : z_pm_fault x h1 (some (.int r2)) h2) : r1 = r2 := by
  have a := y_vi s1
  have c := y_vi s2
  rw [m1.2.2.2.2 59 45 (by decide), m1.2.2.2.2 59 46 (by decide), ← T.1, ← T.2] at c
  exact a.trans c.symm
end ZQ
