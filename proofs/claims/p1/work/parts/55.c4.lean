/-! THE CLASS on a fresh object: text -/
section PC7
variable {lL : Nat} {h : mq_H} {Q : Option Value → mq_H → Prop}
theorem c_advance0 (e1 : mq_I h 35 1 = 0) (e2 : mq_I h 35 7 = 0) (hq : ∀ h', mq_mod 35 36 0 0 h h' → mq_I h' 35 4 = 0 → mq_I h' 35 2 = mq_I h 35 2 → mq_I h' 35 9 = mq_I h 35 9 → Q none h') : mq_Call mq_G (mq_tT lL) 95 [.retAddr 35] h Q := by
  apply mq_enter 90 [13, 54]
  refine bq_t (by rw [e1, e2]; decide) ?_
  refine bq_f (by simp [mq_I_setI, e1, e2]) ?_
  refine hq _ ?_ ?_ ?_ ?_
  · exact (((mq_mod.rf _ _ h).sI (Or.inl ⟨by decide, by decide⟩) _ _).sI (Or.inl ⟨by decide, by decide⟩) _ _).sI (Or.inl ⟨by decide, by decide⟩) _ _
  all_goals simp [mq_I_setI]
theorem mq_mod.tn {lo hi lo2 hi2 n1 z1 n2 z2 n z : Nat} {h h1 h2 : mq_H} (a : mq_mod lo hi n1 z1 h h1) (b : mq_mod lo2 hi2 n2 z2 h1 h2) (hl : mq_N h ≤ lo2) (hn : n1 + n2 ≤ n) (hz : z1 + z2 ≤ z) : mq_mod lo hi n z h h2 := by
  obtain ⟨a1, a2, a3, a4, a5⟩ := a
  obtain ⟨b1, b2, b3, b4, b5⟩ := b
  refine ⟨by omega, by omega, by omega, by omega, fun q hq hnq => ?_⟩
  obtain ⟨x1, x2, x3, x4⟩ := a5 q hq hnq
  obtain ⟨y1, y2, y3, y4⟩ := b5 q (by omega) (by omega)
  exact ⟨y1.trans x1, y2.trans x2, y3.trans x3, y4.trans x4⟩
theorem tT_none {L a : Nat} (h : 100 ≤ a) : (mq_tT L).1 a = none := by
  obtain ⟨a, rfl⟩ : ∃ b, a = b + 1 := ⟨a - 1, by omega⟩
  show mq_tS1 (a + 1) = none
  unfold mq_tS1
  rw [Nat.ble_eq_true_of_le h]
  rfl
theorem mq_sh_cpR (h : mq_H) (a b sp dp n : Nat) : mq_sh (mq_cpR h a b sp dp n) = mq_sh h := rfl
theorem mq_N_cpR (h : mq_H) (a b sp dp n : Nat) : mq_N (mq_cpR h a b sp dp n) = mq_N h := rfl
theorem mq_I_cpR (h : mq_H) (a b sp dp n : Nat) : mq_I (mq_cpR h a b sp dp n) = mq_I h := rfl
theorem mq_R_cpR (h : mq_H) (a b sp dp n c j : Nat) (hc : ¬ c = b) : mq_R (mq_cpR h a b sp dp n) c j = mq_R h c j := if_neg hc
theorem c_mkLaw {a : Nat} (s1 : mq_sh h a = .inl 6) (h100 : 100 ≤ a) (ha : a < mq_N h) {n : Int32} (hn : n = 0) (hq : ∀ h', mq_N h' = mq_N h + 1 → mq_sh h' a = .inl 6 → mq_R h' a 0 = some (mq_N h) → mq_sh h' (mq_N h) = .inr (5, 0) → mq_mod a (a + 1) 1 0 h h' → Q none h') : mq_Call mq_G (mq_tT lL) 53 [.ref a, .retAddr 37, .int n] h Q := by
  subst hn
  have na : ¬ a = mq_N h := by omega
  have nb : ¬ mq_N h = a := by omega
  have tn := tT_none (L := lL) h100
  have t0 : Int32.toNatClampNeg 0 = 0 := by decide
  have bq : Nat.beq 37 (mq_N h) = false := by
    cases e : Nat.beq 37 (mq_N h) with
    | false => rfl
    | true => have := Nat.eq_of_beq_eq_true e; omega
  apply mq_enter 90 []
  refine gq_i rfl ?_
  refine gq_i (by simp [mq_sh_new, na, s1, tn]; rfl) ?_
  refine gq_i (by simp [mq_sh_new, mq_sh_setR, na, s1]; rfl) ?_
  refine oq_s (q := mq_N h) (by simp [mq_R_setR]) ?_
  refine gq_i (by simp [mq_sh_new, mq_sh_setR, na, s1, bq]; exact ⟨rfl, rfl⟩) ?_
  refine bq_t (by decide) ?_
  refine gq_i (by simp [mq_sh_new, mq_sh_setR, mq_sh_cpR, na, s1, tn]; exact ⟨rfl, rfl⟩) ?_
  refine hq _ ?_ ?_ ?_ ?_ ?_
  · rfl
  · simp [mq_sh_setI, mq_sh_cpR, mq_sh_setR, mq_sh_new, na, s1]
  · rw [mq_R_setI, mq_R_cpR _ _ _ _ _ _ _ _ na]
    simp [mq_R_setR]
  · simp [mq_sh_setI, mq_sh_cpR, mq_sh_setR, mq_sh_new]
  · refine mq_mod.sI ?_ (Or.inl ⟨by omega, by omega⟩) _ _
    refine mq_mod.cR ?_ (Or.inr (Nat.le_refl _)) _ _ _ _
    refine mq_mod.sR ?_ (Or.inl ⟨by omega, by omega⟩) _ _
    exact mq_mod.nw (mq_mod.rf 0 0 h) _ (by decide) (by decide)
theorem f_text (F : fr_C h) {x : Int32} (hq : ∀ r h', mq_mod 4 59 200 20000 h h' → sp_v (0 ≤ x.toInt ∧ x.toInt < 8) 0 (-1) r → Q (some (.int r)) h') : mq_Call mq_G (mq_tT lL) 109 [.retAddr 4, .int x] h Q := by
  obtain ⟨f1, f2, f3, f4, f5, f6, f7, f8, f9, f10, f11⟩ := F
  apply mq_enter 90 []
  refine c_within (fun a b => ?_) (fun a => ?_)
  · refine bn_t (by decide) ?_
    apply mq_enter 90 []
    apply mq_enter 90 []
    refine c_advance0 (by simp [mq_I_setI, f5]) (by simp [mq_I_setI, f5]) (fun h1 m1 e1 e2 e3 => ?_)
    refine bq_f (by decide) ?_
    refine bq_t e1 ?_
    refine bn_f (by simp [mq_I_setI, e2]) ?_
    refine c_mkLaw (by simp [mq_sh_new]) ?_ (by rw [mq_N_new]; omega) (by simp [mq_I_setI, e3, mq_I_new]) (fun h2 n2 s2 r2 t2 m2 => ?_)
    · show 100 ≤ mq_N h1
      have := m1.1
      rw [mq_N_setI, mq_N_setI, mq_N_setI, mq_N_setI, f11.1] at this
      exact this
    have n1 := m1.1
    rw [mq_N_setI, mq_N_setI, mq_N_setI, mq_N_setI, f11.1] at n1
    have n1' := m1.2.1
    rw [mq_N_setI, mq_N_setI, mq_N_setI, mq_N_setI, f11.1] at n1'
    have nn : mq_N (mq_setI h1 35 1 0) = 100 := by rw [mq_N_setI]; omega
    rw [mq_N_new] at n2 r2 t2
    rw [nn] at n2 s2 r2 t2 m2
    rw [nn]
    refine gq_i (by rw [s2, inb_of (n := 8) ⟨a, b⟩]; rfl) ?_
    refine c_forgetAll (fun h3 m3 => ?_)
    obtain ⟨s3, i3, j3, r3⟩ := m3.2.2.2.2 100 (by rw [mq_N_setR]; omega) (by decide)
    obtain ⟨s4, i4, j4, r4⟩ := m3.2.2.2.2 101 (by rw [mq_N_setR]; omega) (by decide)
    have r5 : mq_R h3 100 0 = some 101 := by rw [r3, mq_R_setR, if_neg (by decide), r2]
    refine gq_i (by rw [s3, mq_sh_setR, s2]; rfl) ?_
    refine oq_s r5 ?_
    have s5 : mq_sh h3 101 = .inr (5, 0) := by rw [s4, mq_sh_setR, t2]
    refine gq_i (by rw [s5]; rfl) ?_
    refine hq _ _ ?_ (Or.inl ⟨⟨a, b⟩, by rw [s5]; rfl⟩)
    refine mqM2 (h1 := mq_setR h2 13 x.toNatClampNeg (some 100)) ?_ (md_w m3)
    refine mq_mod.sR ?_ (Or.inl ⟨by decide, by decide⟩) _ _
    refine mq_mod.tn (n1 := 1) (z1 := 2) (n2 := 1) (z2 := 0) ?_ m2 (by omega) (by decide) (by decide)
    refine mq_mod.nw (n := 0) (z := 0) ?_ _ (by decide) (by decide)
    refine mq_mod.sI ?_ (Or.inl ⟨by decide, by decide⟩) _ _
    refine mq_mod.tr (n1 := 0) (z1 := 0) (n2 := 0) (z2 := 0) ?_ (m1.wd (by decide) (by decide) (by decide) (by decide)) (by decide) (by decide)
    all_goals (first
        | exact mq_mod.rf _ _ _
        | (repeat (first | exact mq_mod.rf _ _ _ | assumption | refine mq_mod.sI ?_ (Or.inl ⟨by decide, by decide⟩) _ _ | refine mq_mod.sJ ?_ (Or.inl ⟨by decide, by decide⟩) _ _ | refine mq_mod.sR ?_ (Or.inl ⟨by decide, by decide⟩) _ _)); done
        | (refine mqM2 ?_ (md_w (by assumption)); (repeat (first | exact mq_mod.rf _ _ _ | refine mq_mod.sI ?_ (Or.inl ⟨by decide, by decide⟩) _ _ | refine mq_mod.sJ ?_ (Or.inl ⟨by decide, by decide⟩) _ _ | refine mq_mod.sR ?_ (Or.inl ⟨by decide, by decide⟩) _ _)); done)
        | exact Or.inl ⟨trivial, rfl⟩
        | rfl
        | (refine Or.inl ⟨?_, rfl⟩; simp only [lt_i, le_i, eq_i, lit_i] at *; omega)
        | (refine Or.inr ⟨?_, rfl⟩; simp only [lt_i, le_i, eq_i, lit_i] at *; omega)
        | (refine Or.inl ⟨?_, by assumption⟩; simp only [lt_i, le_i, eq_i, lit_i] at *; omega)
        | (refine Or.inr ⟨?_, by assumption⟩; simp only [lt_i, le_i, eq_i, lit_i] at *; omega)
        | assumption
        | (exfalso; simp only [lt_i, le_i, eq_i, lit_i] at *; omega))
  · refine bn_f (by decide) ?_
    apply mq_enter 90 []
    apply mq_enter 90 []
    repeat' (first
        | (refine hq _ _ ?_ ?_)
        | (refine gq_i rfl ?_)
        | (refine gq_i (by apply inb_of; simp only [lt_i, le_i, eq_i, lit_i] at *; omega) ?_)
        | (refine bq_t (by decide) ?_)
        | (refine bq_f (by decide) ?_)
        | (refine bn_t (by decide) ?_)
        | (refine bn_f (by decide) ?_)
        | (refine bq_c (fun c => ?_) (fun c => ?_))
        | (refine bn_c (fun c => ?_) (fun c => ?_)))
    all_goals (first
        | exact mq_mod.rf _ _ _
        | (repeat (first | exact mq_mod.rf _ _ _ | assumption | refine mq_mod.sI ?_ (Or.inl ⟨by decide, by decide⟩) _ _ | refine mq_mod.sJ ?_ (Or.inl ⟨by decide, by decide⟩) _ _ | refine mq_mod.sR ?_ (Or.inl ⟨by decide, by decide⟩) _ _)); done
        | (refine mqM2 ?_ (md_w (by assumption)); (repeat (first | exact mq_mod.rf _ _ _ | refine mq_mod.sI ?_ (Or.inl ⟨by decide, by decide⟩) _ _ | refine mq_mod.sJ ?_ (Or.inl ⟨by decide, by decide⟩) _ _ | refine mq_mod.sR ?_ (Or.inl ⟨by decide, by decide⟩) _ _)); done)
        | exact Or.inl ⟨trivial, rfl⟩
        | rfl
        | (refine Or.inl ⟨?_, rfl⟩; simp only [lt_i, le_i, eq_i, lit_i] at *; omega)
        | (refine Or.inr ⟨?_, rfl⟩; simp only [lt_i, le_i, eq_i, lit_i] at *; omega)
        | (refine Or.inl ⟨?_, by assumption⟩; simp only [lt_i, le_i, eq_i, lit_i] at *; omega)
        | (refine Or.inr ⟨?_, by assumption⟩; simp only [lt_i, le_i, eq_i, lit_i] at *; omega)
        | assumption
        | (exfalso; simp only [lt_i, le_i, eq_i, lit_i] at *; omega))
end PC7
