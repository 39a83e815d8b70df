/-! act: what it answers -/
section YA
variable {lL : Nat} {h h1 h2 : mq_H} {Q : Option Value → mq_H → Prop}
theorem y_ne {x y : Int32} (c : ¬ x = y) {k : Int} (hk : y.toInt = k) : ¬ x.toInt = k := fun z => c (x_toI z hk)
theorem y_eq {x y : Int32} (c : x = y) {k : Int} (hk : y.toInt = k) : x.toInt = k := by rw [c]; exact hk
def y_aP (n a b c : Int32) : Prop := (0 ≤ a.toInt ∧ a.toInt < n.toInt) ∧ (b.toInt = -1 ∨ (0 ≤ b.toInt ∧ b.toInt < n.toInt)) ∧ (c.toInt = -1 ∨ (0 ≤ c.toInt ∧ c.toInt < n.toInt)) ∧ ¬ a.toInt = b.toInt ∧ ¬ a.toInt = c.toInt ∧ (¬ b.toInt = c.toInt ∨ b.toInt = -1)
theorem y_aac {a b c : Int32} (h1 : y_aP (mq_I h 17 0) a b c → Q (some (.int 1)) h) (h0 : ¬ y_aP (mq_I h 17 0) a b c → Q (some (.int 0)) h) : mq_Call mq_G (mq_tT lL) 120 [.retAddr 4, .int a, .int b, .int c] h Q := by
  unfold y_aP at h1 h0
  have k36 : (0 ≤ a.toInt ∧ a.toInt < (mq_I h 17 0).toInt) → (b.toInt = -1 ∨ (0 ≤ b.toInt ∧ b.toInt < (mq_I h 17 0).toInt)) → (c.toInt = -1 ∨ (0 ≤ c.toInt ∧ c.toInt < (mq_I h 17 0).toInt)) → mq_At mq_G (mq_tT lL) 120 36 [some (.retAddr 4), some (.int a), some (.int b), some (.int c)] [] h Q := by
    intro ha hb hc
    apply mq_go 60 []
    refine bq_c (fun e => ?_) (fun e => ?_)
    · have e : a.toInt = b.toInt := congrArg Int32.toInt e
      exact gq_i rfl (h0 (by omega))
    · have e : ¬ a.toInt = b.toInt := y_ne e rfl
      refine bq_c (fun e2 => ?_) (fun e2 => ?_)
      · have e2 : a.toInt = c.toInt := congrArg Int32.toInt e2
        exact gq_i rfl (h0 (by omega))
      · have e2 : ¬ a.toInt = c.toInt := y_ne e2 rfl
        refine bn_c (fun e3 => ?_) (fun e3 => ?_)
        · have e3 : ¬ b.toInt = c.toInt := y_ne e3 rfl
          exact gq_i rfl (h1 ⟨ha, hb, hc, e, e2, Or.inl e3⟩)
        · have e3 : b.toInt = c.toInt := congrArg Int32.toInt e3
          refine bn_c (fun e4 => ?_) (fun e4 => ?_)
          · have e4 : ¬ b.toInt = -1 := y_ne e4 rfl
            exact gq_i rfl (h0 (by omega))
          · have e4 : b.toInt = -1 := y_eq e4 rfl
            exact gq_i rfl (h1 ⟨ha, hb, hc, e, e2, Or.inr e4⟩)
  have k21 : (0 ≤ a.toInt ∧ a.toInt < (mq_I h 17 0).toInt) → (b.toInt = -1 ∨ (0 ≤ b.toInt ∧ b.toInt < (mq_I h 17 0).toInt)) → mq_At mq_G (mq_tT lL) 120 21 [some (.retAddr 4), some (.int a), some (.int b), some (.int c)] [] h Q := by
    intro ha hb
    apply mq_go 60 [36]
    refine bq_c (fun e => ?_) (fun e => ?_)
    · exact k36 ha hb (Or.inl (y_eq e rfl))
    · have e : ¬ c.toInt = -1 := y_ne e rfl
      refine y_isC (fun c1 c2 => ?_) (fun c1 => ?_)
      · exact bn_t (by decide) (k36 ha hb (Or.inr ⟨c1, c2⟩))
      · exact bn_f rfl (gq_i rfl (h0 (by omega)))
  apply mq_enter 60 [21]
  refine y_isC (fun a1 a2 => ?_) (fun a1 => ?_)
  · refine bq_f (by decide) ?_
    refine bq_c (fun e => ?_) (fun e => ?_)
    · exact k21 ⟨a1, a2⟩ (Or.inl (y_eq e rfl))
    · have e : ¬ b.toInt = -1 := y_ne e rfl
      refine y_isC (fun c1 c2 => ?_) (fun c1 => ?_)
      · exact bq_f (by decide) (k21 ⟨a1, a2⟩ (Or.inr ⟨c1, c2⟩))
      · exact bq_t rfl (gq_i rfl (h0 (by omega)))
  · exact bq_t rfl (gq_i rfl (h0 (by omega)))
def y_aA (t n k s d o a b c : Int32) : Prop := (0 ≤ k.toInt ∧ k.toInt < 6) ∧ (s.toInt = -1 ∨ ((4 ≤ s.toInt ∧ s.toInt ≤ 7) ∧ (t.toInt ≤ d.toInt ∧ d.toInt < 3000) ∧ (0 ≤ o.toInt ∧ o.toInt < 1000) ∧ y_aP n a b c))
def y_sp_act (t n k s d o a b c : Int32) (v : Option Value) : Prop := (y_aA t n k s d o a b c ∧ v = some (.int 1)) ∨ (¬ y_aA t n k s d o a b c ∧ v = some (.int 0))
def y_pc_act (k s d o a b c : Int32) (h : mq_H) (v : Option Value) (h2 : mq_H) : Prop := y_sp_act (mq_I h 5 0) (mq_I h 17 0) k s d o a b c v
def y_pm_act (k s d o a b c : Int32) (h : mq_H) (v : Option Value) (h2 : mq_H) : Prop := y_sp_act (mq_I h 59 1) (mq_I h 59 9) k s d o a b c v
theorem y_c_act (_ : ck_Iv x_X h) {k s d o a b c : Int32} (n : Nat) : mq_PC mq_G (mq_tT lL) n 119 [.retAddr 4, .int k, .int s, .int d, .int o, .int a, .int b, .int c] h (y_pc_act k s d o a b c h) := by
  unfold y_pc_act
  have no : ¬ y_aA (mq_I h 5 0) (mq_I h 17 0) k s d o a b c → y_sp_act (mq_I h 5 0) (mq_I h 17 0) k s d o a b c (some (.int 0)) := fun z => Or.inr ⟨z, rfl⟩
  have ye : y_aA (mq_I h 5 0) (mq_I h 17 0) k s d o a b c → y_sp_act (mq_I h 5 0) (mq_I h 17 0) k s d o a b c (some (.int 1)) := fun z => Or.inl ⟨z, rfl⟩
  unfold y_aA at no ye
  revert n
  refine mq_el_in 200 [] (fun n => ?_)
  refine y_wi (k := 6) rfl (fun a1 a2 => ?_) (fun z => bn_f rfl (fun _ => no (fun y => z y.1)))
  refine bn_t (by decide) ?_
  refine bn_c (fun e => ?_) (fun e => ?_)
  · have e : ¬ s.toInt = -1 := y_ne e rfl
    refine bq_c (fun e2 => ?_) (fun e2 => ?_)
    · rw [lt_i] at e2
      have e2 : s.toInt < 4 := e2
      exact fun _ => no (fun y => by rcases y.2 with z | z; exact e z; have := z.1; omega)
    rw [lt_i] at e2
    have e2 : ¬ s.toInt < 4 := e2
    refine bq_c (fun e3 => ?_) (fun e3 => ?_)
    · rw [lt_i] at e3
      have e3 : 7 < s.toInt := e3
      exact fun _ => no (fun y => by rcases y.2 with z | z; exact e z; have := z.1; omega)
    rw [lt_i] at e3
    have e3 : ¬ 7 < s.toInt := e3
    refine bq_c (fun e4 => ?_) (fun e4 => ?_)
    · rw [lt_i] at e4
      exact fun _ => no (fun y => by rcases y.2 with z | z; exact e z; have := z.2.1; omega)
    rw [lt_i] at e4
    refine bq_c (fun e5 => ?_) (fun e5 => ?_)
    · rw [lt_i] at e5
      have e5 : d.toInt < 3000 := e5
      refine y_wi (k := 1000) rfl (fun a3 a4 => ?_) (fun z => bq_t rfl (fun _ => no (fun y => by rcases y.2 with w | w; exact e w; exact z w.2.2.1)))
      refine bq_f (by decide) ?_
      refine (y_aac (fun p => ?_) (fun p => ?_)).pc n
      · refine bn_t (by decide) ?_
        intro _ _ _ _ _ _ _
        exact ye ⟨⟨a1, a2⟩, Or.inr ⟨by omega, by omega, ⟨a3, a4⟩, p⟩⟩
      · exact bn_f rfl (fun _ => no (fun y => by rcases y.2 with w | w; exact e w; exact p w.2.2.2))
    · rw [lt_i] at e5
      have e5 : ¬ d.toInt < 3000 := e5
      exact fun _ => no (fun y => by rcases y.2 with z | z; exact e z; have := z.2.1; omega)
  · intro _ _
    exact ye ⟨⟨a1, a2⟩, Or.inl (y_eq e rfl)⟩
theorem y_isO {x : Int32} (h1 : x.toInt = -1 ∨ (0 ≤ x.toInt ∧ x.toInt < (mq_I h 59 9).toInt) → Q (some (.int 1)) h) (h0 : ¬ (x.toInt = -1 ∨ (0 ≤ x.toInt ∧ x.toInt < (mq_I h 59 9).toInt)) → Q (some (.int 0)) h) : mq_Call mq_G (mq_tT lL) 152 [.retAddr 59, .int x] h Q := by
  apply mq_enter 40 []
  refine bq_c (fun e => ?_) (fun e => ?_)
  · exact gq_i rfl (h1 (Or.inl (y_eq e rfl)))
  · have e : ¬ x.toInt = -1 := y_ne e rfl
    refine y_isM (fun c1 c2 => ?_) (fun c1 => ?_)
    · exact bq_f (by decide) (gq_i rfl (h1 (Or.inr ⟨c1, c2⟩)))
    · exact bq_t rfl (gq_i rfl (h0 (by omega)))
theorem y_isMp {n : Nat} {x : Int32} (h1 : 0 ≤ x.toInt → x.toInt < (mq_I h 59 9).toInt → Q (some (.int 1)) h) (h0 : ¬ (0 ≤ x.toInt ∧ x.toInt < (mq_I h 59 9).toInt) → Q (some (.int 0)) h) : mq_PC mq_G (mq_tT lL) n 146 [.retAddr 59, .int x] h Q := (y_isM h1 h0).pc n
theorem y_isOp {n : Nat} {x : Int32} (h1 : x.toInt = -1 ∨ (0 ≤ x.toInt ∧ x.toInt < (mq_I h 59 9).toInt) → Q (some (.int 1)) h) (h0 : ¬ (x.toInt = -1 ∨ (0 ≤ x.toInt ∧ x.toInt < (mq_I h 59 9).toInt)) → Q (some (.int 0)) h) : mq_PC mq_G (mq_tT lL) n 152 [.retAddr 59, .int x] h Q := (y_isO h1 h0).pc n
theorem y_m_act (_ : ck_Iv x_X h) {k s d o a b c : Int32} (n : Nat) : mq_PC mq_G (mq_tT lL) n 153 [.retAddr 59, .int k, .int s, .int d, .int o, .int a, .int b, .int c] h (y_pm_act k s d o a b c h) := by
  unfold y_pm_act
  have no : ¬ y_aA (mq_I h 59 1) (mq_I h 59 9) k s d o a b c → y_sp_act (mq_I h 59 1) (mq_I h 59 9) k s d o a b c (some (.int 0)) := fun z => Or.inr ⟨z, rfl⟩
  have ye : y_aA (mq_I h 59 1) (mq_I h 59 9) k s d o a b c → y_sp_act (mq_I h 59 1) (mq_I h 59 9) k s d o a b c (some (.int 1)) := fun z => Or.inl ⟨z, rfl⟩
  unfold y_aA y_aP at no ye
  revert n
  refine mq_el_in 200 [] (fun n => ?_)
  refine y_ii (a := 0) (b := 5) rfl rfl (fun a1 a2 => ?_) (fun z => bn_f rfl (fun _ => no (fun y => z ⟨y.1.1, by omega⟩)))
  refine bn_t (by decide) ?_
  refine bn_c (fun e => ?_) (fun e => ?_)
  · have e : ¬ s.toInt = -1 := y_ne e rfl
    have no2 : ¬ ((4 ≤ s.toInt ∧ s.toInt ≤ 7) ∧ ((mq_I h 59 1).toInt ≤ d.toInt ∧ d.toInt < 3000) ∧ (0 ≤ o.toInt ∧ o.toInt < 1000) ∧ y_aP (mq_I h 59 9) a b c) → y_sp_act (mq_I h 59 1) (mq_I h 59 9) k s d o a b c (some (.int 0)) := fun z => no (fun y => by rcases y.2 with w | w; exact e w; exact z w)
    unfold y_aP at no2
    clear no
    refine y_ii (a := 4) (b := 7) rfl rfl (fun a3 a4 => ?_) (fun z => bq_t rfl (fun _ => no2 (fun y => z y.1)))
    refine bq_f (by decide) ?_
    refine y_ii (a := (mq_I h 59 1).toInt) (b := 2999) rfl rfl (fun a5 a6 => ?_) (fun z => bq_t rfl (fun _ => no2 (fun y => z ⟨y.2.1.1, by omega⟩)))
    refine bq_f (by decide) ?_
    refine y_ii (a := 0) (b := 999) rfl rfl (fun a7 a8 => ?_) (fun z => bq_t rfl (fun _ => no2 (fun y => z ⟨y.2.2.1.1, by omega⟩)))
    refine bq_f (by decide) ?_
    refine y_isMp (fun b1 b2 => ?_) (fun z => bq_t rfl (fun _ => no2 (fun y => z y.2.2.2.1)))
    have b2 : a.toInt < (mq_I h 59 9).toInt := b2
    refine bq_f (by decide) ?_
    refine y_isOp (fun b3 => ?_) (fun z => bq_t rfl (fun _ => no2 (fun y => z y.2.2.2.2.1)))
    have b3 : b.toInt = -1 ∨ (0 ≤ b.toInt ∧ b.toInt < (mq_I h 59 9).toInt) := b3
    refine bq_f (by decide) ?_
    refine y_isOp (fun b4 => ?_) (fun z => bq_t rfl (fun _ => no2 (fun y => z y.2.2.2.2.2.1)))
    have b4 : c.toInt = -1 ∨ (0 ≤ c.toInt ∧ c.toInt < (mq_I h 59 9).toInt) := b4
    refine bq_f (by decide) ?_
    refine bq_c (fun e1 => fun _ => no2 (fun y => y.2.2.2.2.2.2.1 (congrArg Int32.toInt e1))) (fun e1 => ?_)
    refine bq_c (fun e2 => fun _ => no2 (fun y => y.2.2.2.2.2.2.2.1 (congrArg Int32.toInt e2))) (fun e2 => ?_)
    have e1 : ¬ a.toInt = b.toInt := y_ne e1 rfl
    have e2 : ¬ a.toInt = c.toInt := y_ne e2 rfl
    refine bn_c (fun e3 => ?_) (fun e3 => ?_)
    · have e3 : ¬ b.toInt = c.toInt := y_ne e3 rfl
      intro _ _ _ _ _ _ _
      exact ye ⟨⟨a1, by omega⟩, Or.inr ⟨⟨a3, a4⟩, ⟨a5, by omega⟩, ⟨a7, by omega⟩, ⟨b1, b2⟩, b3, b4, e1, e2, Or.inl e3⟩⟩
    · have e3 : b.toInt = c.toInt := congrArg Int32.toInt e3
      refine bq_c (fun e4 => ?_) (fun e4 => ?_)
      · intro _ _ _ _ _ _ _
        exact ye ⟨⟨a1, by omega⟩, Or.inr ⟨⟨a3, a4⟩, ⟨a5, by omega⟩, ⟨a7, by omega⟩, ⟨b1, b2⟩, b3, b4, e1, e2, Or.inr (y_eq e4 rfl)⟩⟩
      · have e4 : ¬ b.toInt = -1 := y_ne e4 rfl
        exact fun _ => no2 (fun y => by rcases y.2.2.2.2.2.2.2.2 with w | w; exact w e3; exact e4 w)
  · intro _ _
    exact ye ⟨⟨a1, by omega⟩, Or.inl (y_eq e rfl)⟩
theorem y_a_act {k s d o a b c r1 r2 : Int32} (td : y_e_td (mq_I h) (mq_I h)) (ct : y_e_ct (mq_I h) (mq_I h)) (m1 : ck_md kc_119.2.2 h h1) (s1 : y_pc_act k s d o a b c h (some (.int r1)) h1) (s2 : y_pm_act k s d o a b c h1 (some (.int r2)) h2) : r1 = r2 := by
  have td : mq_I h 5 0 = mq_I h 59 1 := td
  have ct : mq_I h 17 0 = mq_I h 59 9 := ct
  unfold y_pc_act at s1
  unfold y_pm_act at s2
  rw [m1.2.2.2.2 59 1 (by decide), m1.2.2.2.2 59 9 (by decide), ← td, ← ct] at s2
  rcases s1 with ⟨o1, v1⟩ | ⟨o1, v1⟩ <;> rcases s2 with ⟨o2, v2⟩ | ⟨o2, v2⟩
  · exact (y_vi v1).trans (y_vi v2).symm
  · exact absurd o1 o2
  · exact absurd o2 o1
  · exact (y_vi v1).trans (y_vi v2).symm
end YA
