/-! the class's reading of tokens -/
section ZB
variable {lL : Nat} {h h1 h2 : mq_H} {Q : Option Value → mq_H → Prop} {b : Nat → Int} {n : Nat}
def z_by (c : Int) : Int := if c < 128 then c else c - 256
def z_TC (h : mq_H) (b : Nat → Int) (n : Nat) : Prop := mq_I h 35 1 = nI n ∧ n ≤ 400 ∧ ∀ i, i < n → (mq_I h 36 i).toInt = z_by (b i) ∧ 0 ≤ b i ∧ b i ≤ 255
def z_CT (h : mq_H) (t : z_T) : Prop := (mq_I h 35 4).toInt = t.1 ∧ mq_I h 35 6 = nI t.2.2.1 ∧ mq_I h 35 7 = nI t.2.2.2 ∧ (t.1 = 2 → ((mq_I h 35 5).toInt = 0 ↔ t.2.1 = true))
theorem z_by_eq {c x : Int} (h0 : 0 ≤ c) (h1 : c ≤ 255) (x0 : 0 ≤ x) (x1 : x < 128) : z_by c = x ↔ c = x := by
  unfold z_by
  split <;> omega
theorem z_by_bl {c : Int} (h0 : 0 ≤ c) (h1 : c ≤ 255) : z_bl (z_by c) ↔ z_bl c := by
  unfold z_bl z_by
  split <;> omega
theorem z_by_le {c : Int} (h0 : 0 ≤ c) (h1 : c ≤ 255) : z_le (z_by c) ↔ z_le c := by
  unfold z_le z_by
  split <;> omega
theorem z_by_di {c : Int} (h0 : 0 ≤ c) (h1 : c ≤ 255) : z_di (z_by c) ↔ z_di c := by
  unfold z_di z_by
  split <;> omega
theorem z_by_sg {c : Int} (h0 : 0 ≤ c) (h1 : c ≤ 255) : z_sg (z_by c) ↔ z_sg c := by
  unfold z_sg z_by
  split <;> omega
theorem z_cbl {x : Int32} {N : Nat} (h1 : z_bl x.toInt → Q (some (.int 1)) h) (h0 : ¬ z_bl x.toInt → Q (some (.int 0)) h) : mq_PC mq_G (mq_tT lL) N 98 [.int x] h Q := by
  refine mq_Call.pc ?_ N
  apply mq_enter 40 []
  refine bq_c (fun e => ?_) (fun e => ?_)
  · exact gq_i rfl (h1 (Or.inl (y_eq e rfl)))
  · have e : ¬ x.toInt = 32 := y_ne e rfl
    refine bn_c (fun e2 => ?_) (fun e2 => ?_)
    · have e2 : ¬ x.toInt = 10 := y_ne e2 rfl
      exact gq_i rfl (h0 (fun z => by unfold z_bl at z; omega))
    · exact gq_i rfl (h1 (Or.inr (y_eq e2 rfl)))
theorem z_cle {x : Int32} {N : Nat} (h1 : z_le x.toInt → Q (some (.int 1)) h) (h0 : ¬ z_le x.toInt → Q (some (.int 0)) h) : mq_PC mq_G (mq_tT lL) N 99 [.int x] h Q := by
  refine mq_Call.pc ?_ N
  have k12 : ¬ (97 ≤ x.toInt ∧ x.toInt ≤ 122) → mq_At mq_G (mq_tT lL) 99 12 [some (.int x)] [] h Q := by
    intro na
    apply mq_go 40 []
    refine bq_c (fun e => ?_) (fun e => ?_)
    · rw [lt_i] at e
      have e : x.toInt < 65 := e
      exact gq_i rfl (h0 (fun z => by unfold z_le at z; omega))
    · rw [lt_i] at e
      have e : ¬ x.toInt < 65 := e
      refine bq_c (fun e2 => ?_) (fun e2 => ?_)
      · rw [lt_i] at e2
        have e2 : 90 < x.toInt := e2
        exact gq_i rfl (h0 (fun z => by unfold z_le at z; omega))
      · rw [lt_i] at e2
        have e2 : ¬ 90 < x.toInt := e2
        exact gq_i rfl (h1 (Or.inr ⟨by omega, by omega⟩))
  apply mq_enter 40 [12]
  refine bq_c (fun e => ?_) (fun e => ?_)
  · rw [lt_i] at e
    have e : x.toInt < 97 := e
    exact k12 (by omega)
  · rw [lt_i] at e
    have e : ¬ x.toInt < 97 := e
    refine bq_c (fun e2 => ?_) (fun e2 => ?_)
    · rw [le_i] at e2
      have e2 : x.toInt ≤ 122 := e2
      exact gq_i rfl (h1 (Or.inl ⟨by omega, by omega⟩))
    · rw [le_i] at e2
      have e2 : ¬ x.toInt ≤ 122 := e2
      exact k12 (by omega)
theorem z_cdi {x : Int32} {N : Nat} (h1 : z_di x.toInt → Q (some (.int 1)) h) (h0 : ¬ z_di x.toInt → Q (some (.int 0)) h) : mq_PC mq_G (mq_tT lL) N 100 [.int x] h Q := by
  refine mq_Call.pc ?_ N
  apply mq_enter 40 []
  refine bq_c (fun e => ?_) (fun e => ?_)
  · rw [lt_i] at e
    have e : x.toInt < 48 := e
    exact gq_i rfl (h0 (fun z => by unfold z_di at z; omega))
  · rw [lt_i] at e
    have e : ¬ x.toInt < 48 := e
    refine bq_c (fun e2 => ?_) (fun e2 => ?_)
    · rw [lt_i] at e2
      have e2 : 57 < x.toInt := e2
      exact gq_i rfl (h0 (fun z => by unfold z_di at z; omega))
    · rw [lt_i] at e2
      have e2 : ¬ 57 < x.toInt := e2
      exact gq_i rfl (h1 ⟨by omega, by omega⟩)
def z_lv (k : Int) : Int := if k = 42 ∨ k = 47 then 6 else if k = 43 ∨ k = 45 then 5 else if k = 60 ∨ k = 61 ∨ k = 62 then 4 else if k = 279 then 3 else if k = 278 then 2 else if k = 277 then 1 else 0
theorem z_lev {x : Int32} (hq : ∀ r : Int32, r.toInt = z_lv x.toInt → Q (some (.int r)) h) : mq_Call mq_G (mq_tT lL) 94 [.int x] h Q := by
  apply mq_enter 40 []
  refine bq_c (fun e => hq _ (by rw [e]; decide)) (fun e1 => ?_)
  refine bq_c (fun e => hq _ (by rw [e]; decide)) (fun e2 => ?_)
  refine bq_c (fun e => hq _ (by rw [e]; decide)) (fun e3 => ?_)
  refine bq_c (fun e => hq _ (by rw [e]; decide)) (fun e4 => ?_)
  refine bq_c (fun e => hq _ (by rw [e]; decide)) (fun e5 => ?_)
  refine bq_c (fun e => hq _ (by rw [e]; decide)) (fun e6 => ?_)
  refine bq_c (fun e => hq _ (by rw [e]; decide)) (fun e7 => ?_)
  refine bq_c (fun e => hq _ (by rw [e]; decide)) (fun e8 => ?_)
  refine bq_c (fun e => hq _ (by rw [e]; decide)) (fun e9 => ?_)
  refine bq_c (fun e => hq _ (by rw [e]; decide)) (fun e10 => ?_)
  refine hq _ ?_
  have e1 : ¬ x.toInt = 42 := y_ne e1 rfl
  have e2 : ¬ x.toInt = 43 := y_ne e2 rfl
  have e3 : ¬ x.toInt = 45 := y_ne e3 rfl
  have e4 : ¬ x.toInt = 47 := y_ne e4 rfl
  have e5 : ¬ x.toInt = 60 := y_ne e5 rfl
  have e6 : ¬ x.toInt = 61 := y_ne e6 rfl
  have e7 : ¬ x.toInt = 62 := y_ne e7 rfl
  have e8 : ¬ x.toInt = 277 := y_ne e8 rfl
  have e9 : ¬ x.toInt = 278 := y_ne e9 rfl
  have e10 : ¬ x.toInt = 279 := y_ne e10 rfl
  unfold z_lv
  rw [if_neg (by omega), if_neg (by omega), if_neg (by omega), if_neg e10, if_neg e9, if_neg e8]
  rfl
theorem z_csg {x : Int32} {N : Nat} (hx : x.toInt < 128) (h1 : z_sg x.toInt → Q (some (.int 1)) h) (h0 : ¬ z_sg x.toInt → Q (some (.int 0)) h) : mq_PC mq_G (mq_tT lL) N 101 [.int x] h Q := by
  refine mq_Call.pc ?_ N
  apply mq_enter 40 []
  refine bq_c (fun e => gq_i rfl (h1 (by have := y_eq e (k := 59) rfl; unfold z_sg; omega))) (fun e1 => ?_)
  refine bq_c (fun e => gq_i rfl (h1 (by have := y_eq e (k := 40) rfl; unfold z_sg; omega))) (fun e2 => ?_)
  refine bq_c (fun e => gq_i rfl (h1 (by have := y_eq e (k := 41) rfl; unfold z_sg; omega))) (fun e3 => ?_)
  have e1 : ¬ x.toInt = 59 := y_ne e1 rfl
  have e2 : ¬ x.toInt = 40 := y_ne e2 rfl
  have e3 : ¬ x.toInt = 41 := y_ne e3 rfl
  refine z_lev (fun r er => ?_)
  have lv : z_lv x.toInt ≤ 0 ↔ ¬ z_sg x.toInt := by
    unfold z_lv z_sg
    repeat' split
    all_goals omega
  refine bq_c (fun c => ?_) (fun c => ?_)
  · rw [le_i, er] at c
    have c : z_lv x.toInt ≤ 0 := c
    exact gq_i rfl (h0 (lv.mp c))
  · rw [le_i, er] at c
    have c : ¬ z_lv x.toInt ≤ 0 := c
    exact gq_i rfl (h1 (Classical.byContradiction (fun z => c (lv.mpr z))))
end ZB
