/-! THE CLASS on a fresh object: the plan -/
section PC8
variable {lL : Nat} {h : mq_H} {Q : Option Value → mq_H → Prop}
theorem c_cost0 (hq : Q (some (.int 0)) h) : mq_Call mq_G (mq_tT lL) 4 [.retAddr 30, .int 0] h Q := by
  apply mq_enter 300 []
  repeat' (first
      | (refine hq _ _ ?_ ?_)
      | (refine gq_i rfl ?_)
      | (refine gq_i (by apply inb_of; simp only [lt_i, le_i, eq_i, lit_i] at *; omega) ?_)
      | (refine bq_t (by decide) ?_)
      | (refine bq_f (by decide) ?_)
      | (refine bn_t (by decide) ?_)
      | (refine bn_f (by decide) ?_)
      | (refine bq_c (fun c => ?_) (fun c => ?_))
      | (refine bn_c (fun c => ?_) (fun c => ?_)))
  exact hq
theorem c_costAny {x : Int32} (hq : ∀ r, Q (some (.int r)) h) : mq_Call mq_G (mq_tT lL) 4 [.retAddr 30, .int x] h Q := by
  have key : ∀ (n k : Nat) (s : Int32), k + n = 6 → mq_At mq_G (mq_tT lL) 4 4 [some (.retAddr 30), some (.int x), some (.int s), some (.int (nI k))] [] h Q := by
    intro n
    induction n with
    | zero =>
      intro k s hk
      apply mq_go 40 []
      refine bq_t (by rw [show k = 6 by omega]; decide) ?_
      exact hq s
    | succ n ih =>
      intro k s hk
      apply mq_go 40 [4]
      refine bq_f (nI_ge (b := 6) (by omega) (by decide)) ?_
      refine bq_c (fun c => ?_) (fun c => ?_)
      · show mq_At mq_G (mq_tT lL) 4 4 [some (.retAddr 30), some (.int x), some (.int (s + 0)), some (.int (nI k + 1))] [] h Q
        rw [nI_1]
        exact ih (k + 1) _ (by omega)
      · refine gq_i (inb_nI (by omega) (by decide)) ?_
        show mq_At mq_G (mq_tT lL) 4 4 [some (.retAddr 30), some (.int x), some (.int (s + _)), some (.int (nI k + 1))] [] h Q
        rw [nI_1]
        exact ih (k + 1) _ (by omega)
  apply mq_enter 40 [4]
  exact key 6 0 0 (by decide)
theorem and0 {k : Nat} (h0 : 0 < k) (h1 : k < 64) : ¬ (nI k &&& 0 = nI k) := by
  intro e
  rw [Int32.and_zero] at e
  have := congrArg Int32.toInt e
  rw [nI_toInt (by omega)] at this
  simp at this
  omega
theorem c_cheap (f8 : ∀ k, k < 6 → mq_I h 31 k = -1) (hq : Q (some (.int 0)) h) : mq_Call mq_G (mq_tT lL) 65 [.retAddr 54, .long (-1)] h Q := by
  have key : ∀ (n k : Nat), 0 < k → k + n = 64 → ∀ u, mq_At mq_G (mq_tT lL) 65 17 [some (.retAddr 54), some (.long (-1)), u, some (.int 0), some (.int 0), some (.int (nI k))] [] h Q := by
    intro n
    induction n with
    | zero =>
      intro k h0 hk u
      apply mq_go 40 []
      refine bq_t (by rw [show k = 64 by omega]; decide) ?_
      exact hq
    | succ n ih =>
      intro k h0 hk u
      apply mq_go 40 [17]
      refine bq_f (nI_ge (b := 64) (by omega) (by decide)) ?_
      refine bn_t (and0 h0 (by omega)) ?_
      show mq_At mq_G (mq_tT lL) 65 17 [some (.retAddr 54), some (.long (-1)), u, some (.int 0), some (.int 0), some (.int (nI k + 1))] [] h Q
      rw [nI_1]
      exact ih (k + 1) (by omega) (by omega) u
  apply mq_enter 40 [17]
  refine c_told f8 ?_
  show mq_At mq_G (mq_tT lL) 65 17 [some (.retAddr 54), some (.long (-1)), none, some (.int 0), some (.int (-1)), some (.int 0)] [] h Q
  apply mq_go 90 [17]
  refine bq_f (by decide) ?_
  refine bn_f (by decide) ?_
  trace_state
  refine bq_f (by decide) ?_
  refine bq_t (by decide) ?_
  exact key 63 1 (by decide) (by decide) none
theorem c_weigh (f2 : mq_I h 17 0 = 0) {x : Int32} (hq : Q none h) : mq_Call mq_G (mq_tT lL) 62 [.retAddr 54, .int x] h Q := by
  apply mq_enter 40 [16]
  refine bq_t (by rw [f2]; decide) ?_
  exact hq
theorem c_claimOf {x : Int32} (hx : x.toInt < 0) (hq : Q (some (.int (-1))) h) : mq_Call mq_G (mq_tT lL) 72 [.retAddr 54, .int x] h Q := by
  apply mq_enter 40 [11]
  refine c_within (fun a b => ?_) (fun a => ?_)
  · omega
  · refine bq_t (by decide) ?_
    exact hq
theorem c_keep (f2 : mq_I h 17 0 = 0) (hq : Q (some (.long (-1))) h) : mq_Call mq_G (mq_tT lL) 64 [.retAddr 54, .int (-1), .int (-1)] h Q := by
  apply mq_enter 60 [36]
  refine c_claimOf (by decide) ?_
  refine c_claimOf (by decide) ?_
  refine bq_t (by rw [f2]; decide) ?_
  exact hq
theorem c_worth (f8 : ∀ k, k < 6 → mq_I h 31 k = -1) {x : Int32} (hq : Q (some (.int 0)) h) : mq_Call mq_G (mq_tT lL) 67 [.retAddr 54, .int x] h Q := by
  have key : ∀ (n k : Nat), 0 < k → k + n = 64 → ∀ u w, mq_At mq_G (mq_tT lL) 67 16 [some (.retAddr 54), some (.int x), some (.int 0), some (.int 0), some (.int (nI k)), u, w] [] h Q := by
    intro n
    induction n with
    | zero =>
      intro k h0 hk u w
      apply mq_go 40 []
      refine bq_t (by rw [show k = 64 by omega]; decide) ?_
      exact hq
    | succ n ih =>
      intro k h0 hk u w
      apply mq_go 60 [16]
      refine bq_f (nI_ge (b := 64) (by omega) (by decide)) ?_
      refine c_costAny (fun r => ?_)
      refine bn_t (and0 h0 (by omega)) ?_
      show mq_At mq_G (mq_tT lL) 67 16 [some (.retAddr 54), some (.int x), some (.int 0), some (.int 0), some (.int (nI k + 1)), some (.int r), w] [] h Q
      rw [nI_1]
      exact ih (k + 1) (by omega) (by omega) _ w
  apply mq_enter 40 [16]
  refine c_told f8 ?_
  exact key 63 1 (by decide) (by decide) none none
theorem c_sum (f2 : mq_I h 17 0 = 0) {x : Int32} (hq : Q (some (.int 0)) h) : mq_Call mq_G (mq_tT lL) 68 [.retAddr 54, .int x] h Q := by
  apply mq_enter 40 [18]
  refine bq_t (by rw [f2]; decide) ?_
  exact hq
theorem c_best (f8 : ∀ k, k < 6 → mq_I h 31 k = -1) (hq : Q (some (.int (-1))) h) : mq_Call mq_G (mq_tT lL) 69 [.retAddr 54] h Q := by
  apply mq_enter 300 []
  refine c_told f8 ?_
  repeat' (first
      | (refine hq _ _ ?_ ?_)
      | (refine gq_i rfl ?_)
      | (refine gq_i (by apply inb_of; simp only [lt_i, le_i, eq_i, lit_i] at *; omega) ?_)
      | (refine bq_t (by decide) ?_)
      | (refine bq_f (by decide) ?_)
      | (refine bn_t (by decide) ?_)
      | (refine bn_f (by decide) ?_)
      | (refine bq_c (fun c => ?_) (fun c => ?_))
      | (refine bn_c (fun c => ?_) (fun c => ?_)))
  exact hq
end PC8
