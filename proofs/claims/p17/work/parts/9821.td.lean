/-! today: what it answers, what it leaves -/
section YT
variable {lL : Nat} {h h1 h2 : mq_H} {Q : Option Value → mq_H → Prop}
def y_td (t d : Int32) : Int32 × Int32 := if t.toInt ≤ d.toInt ∧ d.toInt < 3000 then (1, d) else (0, t)
theorem y_td_1 {t d : Int32} (c : t.toInt ≤ d.toInt ∧ d.toInt < 3000) : y_td t d = (1, d) := if_pos c
theorem y_td_0 {t d : Int32} (c : ¬ (t.toInt ≤ d.toInt ∧ d.toInt < 3000)) : y_td t d = (0, t) := if_neg c
def y_pc_today (d : Int32) (h : mq_H) (v : Option Value) (h2 : mq_H) : Prop := v = some (.int (y_td (mq_I h 5 0) d).1) ∧ mq_I h2 5 0 = (y_td (mq_I h 5 0) d).2
def y_pm_today (d : Int32) (h : mq_H) (v : Option Value) (h2 : mq_H) : Prop := v = some (.int (y_td (mq_I h 59 1) d).1) ∧ mq_I h2 59 1 = (y_td (mq_I h 59 1) d).2
theorem y_c_today (I : ck_Iv x_X h) {d : Int32} (n : Nat) : mq_PC mq_G (mq_tT lL) n 103 [.retAddr 4, .int d] h (y_pc_today d h) := by
  have t0 := I.1.1 5 0 0 2999 rfl
  revert n
  unfold y_pc_today
  refine mq_el_in 60 [] (fun n => ?_)
  refine bq_c (fun c => ?_) (fun c => ?_)
  · have c : d < mq_I h 5 0 := c
    rw [lt_i] at c
    intro _
    rw [y_td_0 (by omega)]
    exact ⟨rfl, rfl⟩
  · have c : ¬ d < mq_I h 5 0 := c
    rw [lt_i] at c
    refine bq_c (fun c2 => ?_) (fun c2 => ?_)
    · rw [lt_i] at c2
      have c2 : d.toInt < 3000 := c2
      have K := x_set (a := 5) (k := 0) (x := d) I (ck_md.rf (2) h) (by decide) (show ck_wl _ x_sup (ck_lc 5 0) = true by decide) (fun l u z => by cases z; omega) (fun n l u z _ => by cases z)
      refine mq_PC.mono ((kv_1 _ [.retAddr 30, .int d] K.1 ⟨rfl, ⟨_, rfl, show (0 : Int) ≤ d.toInt by omega, show d.toInt ≤ (2999 : Int) by omega⟩, trivial⟩).pc n) (fun v h2 ⟨_, m2, ev⟩ => ?_)
      have ev : v = none := ev
      subst ev
      intro _
      rw [y_td_1 (by omega)]
      exact ⟨rfl, (m2.2.2.2.2 5 0 (by decide)).trans rfl⟩
    · rw [lt_i] at c2
      have c2 : ¬ d.toInt < 3000 := c2
      intro _
      rw [y_td_0 (by omega)]
      exact ⟨rfl, rfl⟩
theorem y_m_today (_ : ck_Iv x_X h) {d : Int32} (n : Nat) : mq_PC mq_G (mq_tT lL) n 141 [.retAddr 59, .int d] h (y_pm_today d h) := by
  revert n
  unfold y_pm_today
  refine mq_el_in 60 [29] (fun n => ?_)
  refine (x_isIn (fun a b => ?_) (fun a => ?_)).pc n
  · have b : d.toInt ≤ 2999 := b
    have a : (mq_I h 59 1).toInt ≤ d.toInt := a
    rw [y_td_1 (by omega)]
    refine bn_t (by decide) ?_
    have lp : ∀ (n : Nat) (y : Int32) (h1 : mq_H), mq_I h1 59 1 = d → mq_Pn mq_G (mq_tT lL) n 141 29 [some (.retAddr 59), some (.int d), some (.int y)] [] h1 (fun v h2 => v = some (.int 1) ∧ mq_I h2 59 1 = d) := by
      intro n
      induction n with
      | zero => intro y h1 _; exact mq_Pn.z
      | succ n ih =>
        intro y h1 e
        refine mq_gl 60 [29] ?_
        refine bq_c (fun _ => ?_) (fun _ => ?_)
        · intro _
          exact ⟨rfl, e⟩
        · intro _
          refine bq_c (fun _ => ?_) (fun _ => ?_)
          · exact ih _ _ e
          · intro _
            refine bq_c (fun _ => ?_) (fun _ => ?_)
            · exact ih _ _ e
            · intro _
              exact ih _ _ e
    exact lp n 0 _ rfl
  · have a : (mq_I h 59 1).toInt ≤ d.toInt → ¬ d.toInt ≤ 2999 := a
    rw [y_td_0 (fun z => a z.1 (by omega))]
    refine bn_f rfl ?_
    intro _
    exact ⟨rfl, rfl⟩
theorem y_j_today {d r1 r2 : Int32} (td : y_e_td (mq_I h) (mq_I h)) (m1 : ck_md kc_103.2.2 h h1) (s1 : y_pc_today d h (some (.int r1)) h1) (m2 : ck_md kc_141.2.2 h1 h2) (s2 : y_pm_today d h1 (some (.int r2)) h2) : r1 = r2 ∧ y_e_td (mq_I h2) (mq_I h2) := by
  have e : mq_I h 5 0 = mq_I h 59 1 := td
  obtain ⟨a1, a2⟩ := s1
  obtain ⟨b1, b2⟩ := s2
  have a1 := y_vi a1
  have b1 := y_vi b1
  rw [m1.2.2.2.2 59 1 (by decide)] at b1 b2
  rw [e] at a1 a2
  refine ⟨by rw [a1, b1], ?_⟩
  show mq_I h2 5 0 = mq_I h2 59 1
  rw [m2.2.2.2.2 5 0 (by decide), a2, b2]
end YT
