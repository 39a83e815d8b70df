/-! readUnit, readProduct, readSum, readCompared -/
section XH
variable {G : x_GT} {lL : Nat} {h h' h2 : mq_H} {Q : Option Value → mq_H → Prop}
def x_QM : Nat := 8266440834931500359676909364887683072
theorem x_RQ {h h' : mq_H} (m : ck_md x_RM h h') : ck_md x_QM h h' := m.wd (ck_sub_of (by decide))
theorem x_EQ {h h' : mq_H} (m : ck_md x_EM h h') : ck_md x_QM h h' := m.wd (ck_sub_of (by decide))
theorem x_ErQ {h h' : mq_H} (m : ck_md x_ErM h h') : ck_md x_QM h h' := m.wd (ck_sub_of (by decide))
theorem x_ps.f4 {T lf c d f : Nat} (P : x_ps G h T lf c d f) (hT : T ≤ 400) (ht : ¬ mq_I h 59 28 = 0) : f < 400 := by
  obtain ⟨p1, p2, ⟨s, p3, p4, p5, p6⟩, p7⟩ := P
  rcases p6 with z | z
  · exact absurd z ht
  · omega
theorem x_ps.f5 {T lf c d f : Nat} (P : x_ps G h T lf c d f) (hT : T ≤ 400) : f ≤ 400 := by
  obtain ⟨p1, p2, ⟨s, p3, p4, p5, p6⟩, p7⟩ := P
  omega
theorem x_unit (I : ck_Iv x_X h) {T lf c d f e : Nat} (P : x_ps G h T lf c d f) (hT : T ≤ 400) (he : c + e ≤ f) (hq : ∀ (v : Int32) h2, ck_Iv x_X h2 → ck_md x_QM h h2 → (v = -1 ∨ v = 0 ∧ ∃ f', x_ps G h2 T lf (c + 1) (d + 1) f' ∧ c + 1 + e ≤ f' ∧ f + 1 ≤ f' ∧ (mq_I h 59 28 = 3 → x_o h2 lf (c - lf) = 0 ∧ x_a h2 lf (c - lf) = mq_I h 59 29)) → Q (some (.int v)) h2) : mq_Call mq_G (mq_tT lL) 167 [.retAddr 59] h Q := by
  have hlf := P.2.2.2.2.1
  have ix : 3200 + lf + (c - lf) = 3200 + c := by omega
  -- behind emits
  have k72 : ∀ (l1 : Option Value) (h1 : mq_H), ck_Iv x_X h1 → ck_md x_EM h h1 → x_ps G h1 T lf (c + 1) (d + 1) f → ¬ mq_I h 59 28 = 0 → (mq_I h 59 28 = 3 → x_o h1 lf (c - lf) = 0 ∧ x_a h1 lf (c - lf) = mq_I h 59 29) → mq_At mq_G (mq_tT lL) 167 72 [some (.retAddr 59), l1] [] h1 Q := by
    intro l1 h1 I1 m1 P1 ht hn
    apply mq_go 40 []
    refine x_reads2 I1 P1 hT (by rw [m1.2.2.2.2 59 28 (by decide)]; exact ht) (fun h2 f' I2 m2 P2 hf => ?_)
    refine hq 0 h2 I2 ((x_EQ m1).tr (x_RQ m2)) (Or.inr ⟨rfl, f', P2, by omega, hf, fun z => ?_⟩)
    obtain ⟨z1, z2⟩ := hn z
    exact ⟨(m2.2.2.2.2 88 (3200 + lf + (c - lf)) (show Nat.testBit x_RM (ck_lca 88) = false by decide)).trans z1, (m2.2.2.2.2 89 (3200 + lf + (c - lf)) (show Nat.testBit x_RM (ck_lca 89) = false by decide)).trans z2⟩
  -- a number
  have num : mq_I h 59 28 = 3 → mq_At mq_G (mq_tT lL) 167 41 [some (.retAddr 59), some (.int 0)] [] h Q := by
    intro t3
    have ht : ¬ mq_I h 59 28 = 0 := fun z => by rw [t3] at z; cases z
    have hf := P.f4 hT ht
    apply mq_go 40 [72]
    refine bq_t rfl ?_
    refine bq_t rfl ?_
    refine x_emits I P.1 (by omega) (fun h2 I2 m2 e1 e2 e3 e4 => ?_)
    have eo : x_o h2 lf (c - lf) = 0 := by unfold x_o; rw [ix]; exact e3
    have ea : x_a h2 lf (c - lf) = mq_I h 59 29 := by unfold x_a; rw [ix]; exact e4
    exact k72 _ h2 I2 m2 (P.em m2 e1 e2 (x_sc_num (P.lo e2) eo)) ht (fun _ => ⟨eo, ea⟩)
  -- a word that is asked
  have ask : mq_I h 59 28 = 2 → ¬ mq_I h 59 29 < 24 → mq_At mq_G (mq_tT lL) 167 41 [some (.retAddr 59), some (.int 1)] [] h Q := by
    intro t2 hv
    have ht : ¬ mq_I h 59 28 = 0 := fun z => by rw [t2] at z; cases z
    have hf := P.f4 hT ht
    have hv2 := P.2.2.2.1 t2
    rw [lt_i] at hv
    have hv : ¬ (mq_I h 59 29).toInt < 24 := hv
    have esub : (mq_I h 59 29 - 24).toInt = (mq_I h 59 29).toInt - 24 := ci_sub (y := 24) ⟨by show (-2147483648 : Int) ≤ _ - 24; omega, by show _ - (24 : Int) ≤ _; omega⟩
    apply mq_go 40 [72]
    refine bq_f (by decide) ?_
    refine bq_f (by decide) ?_
    refine x_emits I P.1 (by omega) (fun h2 I2 m2 e1 e2 e3 e4 => ?_)
    have eo : x_o h2 lf (c - lf) = 1 := by unfold x_o; rw [ix]; exact e3
    have ea : x_a h2 lf (c - lf) = mq_I h 59 29 - 24 := by unfold x_a; rw [ix]; exact e4
    exact k72 _ h2 I2 m2 (P.em m2 e1 e2 (x_sc_ask (P.lo e2) eo (by rw [ea, esub]; omega))) ht (fun z => by rw [t2] at z; cases z)
  apply mq_enter 60 [41]
  refine bn_c (fun c2 => ?_) (fun c2 => ?_)
  · refine bn_f rfl ?_
    refine bq_c (fun t3 => num t3) (fun t3 => ?_)
    exact x_errs I (by decide) (fun h2 I2 m2 => hq _ h2 I2 (x_ErQ m2) (Or.inl rfl))
  · refine bq_c (fun v => ?_) (fun v => ?_)
    · refine bn_f rfl ?_
      refine bq_c (fun t3 => num t3) (fun t3 => ?_)
      exact x_errs I (by decide) (fun h2 I2 m2 => hq _ h2 I2 (x_ErQ m2) (Or.inl rfl))
    · refine bn_t (by decide) ?_
      exact ask c2 v
def x_pe (G : x_GT) (h h2 : mq_H) (T lf d f e : Nat) (v : Int32) : Prop := ck_Iv x_X h2 ∧ ck_md x_QM h h2 ∧ (v = -1 ∨ v = 0 ∧ ∃ c' f', x_ps G h2 T lf c' d f' ∧ c' + e ≤ f' ∧ f + 1 ≤ f')
theorem x_prod (I : ck_Iv x_X h) {T lf c d f e : Nat} (P : x_ps G h T lf c d f) (hT : T ≤ 400) (he : c + e ≤ f) (hq : ∀ (v : Int32) h2, x_pe G h h2 T lf (d + 1) f e v → Q (some (.int v)) h2) : mq_Call mq_G (mq_tT lL) 168 [.retAddr 59] h Q := by
  have key : ∀ (n c1 f1 : Nat) (l1 : Option Value) (h1 : mq_H), 400 ≤ f1 + n → ck_Iv x_X h1 → ck_md x_QM h h1 → x_ps G h1 T lf c1 (d + 1) f1 → c1 + e ≤ f1 → f + 1 ≤ f1 → mq_At mq_G (mq_tT lL) 168 10 [some (.retAddr 59), l1] [] h1 Q := by
    intro n
    induction n with
    | zero =>
      intro c1 f1 l1 h1 hn I1 m1 P1 he1 hf1
      have fin : ¬ mq_I h1 59 28 = 0 → False := fun z => by have := P1.f4 hT z; omega
      apply mq_go 40 []
      refine x_isSign (fun z _ => (fin (by rw [z]; decide)).elim) (fun _ => ?_)
      refine bn_f rfl ?_
      refine x_isSign (fun z _ => (fin (by rw [z]; decide)).elim) (fun _ => ?_)
      refine bq_t rfl ?_
      exact hq 0 h1 ⟨I1, m1, Or.inr ⟨rfl, c1, f1, P1, he1, hf1⟩⟩
    | succ n ih =>
      intro c1 f1 l1 h1 hn I1 m1 P1 he1 hf1
      -- the unit behind the sign
      have unit : ∀ (t : Int32) (f2 : Nat) (h2 : mq_H), ck_Iv x_X h2 → ck_md x_QM h h2 → x_ps G h2 T lf c1 (d + 1) f2 → f1 + 1 ≤ f2 → (t = 0 → mq_I h2 59 28 = 3 ∧ ¬ mq_I h2 59 29 = 0) → mq_At mq_G (mq_tT lL) 168 74 [some (.retAddr 59), some (.int t)] [] h2 Q := by
        intro t f2 h2 I2 m2 P2 hf2 ht
        have nx : ∀ (w : Int32) (f3 : Nat) (h3 : mq_H), ck_Iv x_X h3 → ck_md x_QM h h3 → x_ps G h3 T lf (c1 + 1) (d + 1 + 1) f3 → c1 + 1 + (e + 1) ≤ f3 → f2 + 1 ≤ f3 → (w = 4 ∨ w = 5 ∧ x_o h3 lf (c1 - lf) = 0 ∧ ¬ x_a h3 lf (c1 - lf) = 0) → ∀ Q' : Option Value → mq_H → Prop, (∀ h4, mq_At mq_G (mq_tT lL) 168 10 [some (.retAddr 59), some (.int t)] [] h4 Q → Q' none h4) → mq_Call mq_G (mq_tT lL) 166 [.retAddr 59, .int w, .int 0] h3 Q' := by
          intro w f3 h3 I3 m3 P3 he3 hf3 hw Q' hQ'
          have := P3.f5 hT
          have hlf := P2.2.2.2.2.1
          refine x_emits I3 P3.1 (by omega) (fun h4 I4 m4 e1 e2 e3 e4 => ?_)
          have eo : x_o h4 lf (c1 + 1 - lf) = w := by unfold x_o; rw [show 3200 + lf + (c1 + 1 - lf) = 3200 + (c1 + 1) by omega]; exact e3
          have hd : x_sc (x_o h4 lf) (x_a h4 lf) (c1 + 1 - lf + 1) = some (d + 1) := by
            rcases hw with rfl | ⟨rfl, z1, z2⟩
            · exact x_sc_bin (P3.lo e2) eo (by decide) (by omega)
            · have q1 : x_o h4 lf (c1 - lf) = 0 := by rw [← z1]; exact (e2 _ (by omega)).1
              have q2 : x_a h4 lf (c1 - lf) = x_a h3 lf (c1 - lf) := (e2 _ (by omega)).2
              have lo := P3.lo e2
              rw [show c1 + 1 - lf = c1 - lf + 1 by omega] at lo eo ⊢
              exact x_sc_prt lo eo q1 (by rw [q2]; exact z2) (by omega)
          exact hQ' h4 (ih (c1 + 1 + 1) f3 _ h4 (by omega) I4 (m3.tr (x_EQ m4)) (P3.em m4 e1 e2 hd) (by omega) (by omega))
        apply mq_go 40 [10]
        refine x_unit I2 (e := e + 1) P2 hT (by omega) (fun v h3 I3 m3 hv => ?_)
        rcases hv with rfl | ⟨rfl, f3, P3, he3, hf3, hn3⟩
        · refine bn_f rfl ?_
          exact hq _ h3 ⟨I3, m2.tr m3, Or.inl rfl⟩
        · refine bn_t (by decide) ?_
          refine bq_c (fun z => ?_) (fun z => ?_)
          · obtain ⟨y1, y2⟩ := ht z
            obtain ⟨y3, y4⟩ := hn3 y1
            exact nx 5 f3 h3 I3 (m2.tr m3) P3 (by omega) hf3 (Or.inr ⟨rfl, y3, by rw [y4]; exact y2⟩) _ (fun h4 z => z)
          · exact nx 4 f3 h3 I3 (m2.tr m3) P3 (by omega) hf3 (Or.inl rfl) _ (fun h4 z => z)
      -- at the sign
      have sgn : mq_I h1 59 28 = 4 → mq_At mq_G (mq_tT lL) 168 28 [some (.retAddr 59), l1] [] h1 Q := by
        intro z
        have ht : ¬ mq_I h1 59 28 = 0 := by rw [z]; decide
        have rd : ∀ t : Int32, (t = 0 ∨ t = 1) → ∀ Q' : Option Value → mq_H → Prop, (∀ h2, mq_At mq_G (mq_tT lL) 168 39 [some (.retAddr 59), some (.int t)] [] h2 Q → Q' none h2) → mq_Call mq_G (mq_tT lL) 162 [.retAddr 59] h1 Q' := by
          intro t ht2 Q' hQ'
          refine x_reads2 I1 P1 hT ht (fun h2 f2 I2 m2 P2 hf2 => ?_)
          have M2 := m1.tr (x_RQ m2)
          refine hQ' h2 ?_
          apply mq_go 40 [74]
          rcases ht2 with rfl | rfl
          · refine bn_f rfl ?_
            refine bq_c (fun t3 => ?_) (fun t3 => ?_)
            · refine bn_f rfl ?_
              refine bn_c (fun v0 => ?_) (fun v0 => ?_)
              · exact unit 0 f2 h2 I2 M2 P2 hf2 (fun _ => ⟨t3, v0⟩)
              · exact x_errs I2 (by decide) (fun h3 I3 m3 => hq _ h3 ⟨I3, M2.tr (x_ErQ m3), Or.inl rfl⟩)
            · exact x_errs I2 (by decide) (fun h3 I3 m3 => hq _ h3 ⟨I3, M2.tr (x_ErQ m3), Or.inl rfl⟩)
          · refine bn_t (by decide) ?_
            refine bn_t (by decide) ?_
            exact unit 1 f2 h2 I2 M2 P2 hf2 (fun z => by cases z)
        apply mq_go 40 [39]
        refine x_isSign (fun _ _ => ?_) (fun _ => ?_)
        · exact rd 1 (Or.inr rfl) _ (fun h2 z => z)
        · exact rd 0 (Or.inl rfl) _ (fun h2 z => z)
      apply mq_go 40 [28]
      refine x_isSign (fun z _ => ?_) (fun _ => ?_)
      · refine bn_t (by decide) ?_
        exact sgn z
      · refine bn_f rfl ?_
        refine x_isSign (fun z _ => ?_) (fun _ => ?_)
        · refine bq_f (by decide) ?_
          exact sgn z
        · refine bq_t rfl ?_
          exact hq 0 h1 ⟨I1, m1, Or.inr ⟨rfl, c1, f1, P1, he1, hf1⟩⟩
  apply mq_enter 40 [10]
  refine x_unit I P hT he (fun v h1 I1 m1 hv => ?_)
  rcases hv with rfl | ⟨rfl, f1, P1, he1, hf1, -⟩
  · refine bn_f rfl ?_
    exact hq _ h1 ⟨I1, m1, Or.inl rfl⟩
  · refine bn_t (by decide) ?_
    exact key 400 (c + 1) f1 _ h1 (by omega) I1 m1 P1 he1 hf1
theorem x_sum (I : ck_Iv x_X h) {T lf c d f e : Nat} (P : x_ps G h T lf c d f) (hT : T ≤ 400) (he : c + e ≤ f) (hq : ∀ (v : Int32) h2, x_pe G h h2 T lf (d + 1) f e v → Q (some (.int v)) h2) : mq_Call mq_G (mq_tT lL) 169 [.retAddr 59] h Q := by
  have key : ∀ (n c1 f1 : Nat) (l1 : Option Value) (h1 : mq_H), 400 ≤ f1 + n → ck_Iv x_X h1 → ck_md x_QM h h1 → x_ps G h1 T lf c1 (d + 1) f1 → c1 + e ≤ f1 → f + 1 ≤ f1 → mq_At mq_G (mq_tT lL) 169 10 [some (.retAddr 59), l1] [] h1 Q := by
    intro n
    induction n with
    | zero =>
      intro c1 f1 l1 h1 hn I1 m1 P1 he1 hf1
      have fin : ¬ mq_I h1 59 28 = 0 → False := fun z => by have := P1.f4 hT z; omega
      apply mq_go 40 []
      refine x_isSign (fun z _ => (fin (by rw [z]; decide)).elim) (fun _ => ?_)
      refine bn_f rfl ?_
      refine x_isSign (fun z _ => (fin (by rw [z]; decide)).elim) (fun _ => ?_)
      refine bq_t rfl ?_
      exact hq 0 h1 ⟨I1, m1, Or.inr ⟨rfl, c1, f1, P1, he1, hf1⟩⟩
    | succ n ih =>
      intro c1 f1 l1 h1 hn I1 m1 P1 he1 hf1
      have nx : ∀ (w : Int32), (w = 2 ∨ w = 3) → ¬ mq_I h1 59 28 = 0 → mq_At mq_G (mq_tT lL) 169 43 [some (.retAddr 59), some (.int w)] [] h1 Q := by
        intro w hw ht
        apply mq_go 40 [10]
        refine x_reads2 I1 P1 hT ht (fun h2 f2 I2 m2 P2 hf2 => ?_)
        have M2 := m1.tr (x_RQ m2)
        refine x_prod I2 (e := e + 1) P2 hT (by omega) (fun v h3 ⟨I3, m3, hv⟩ => ?_)
        rcases hv with rfl | ⟨rfl, c3, f3, P3, he3, hf3⟩
        · refine bn_f rfl ?_
          exact hq _ h3 ⟨I3, M2.tr m3, Or.inl rfl⟩
        · refine bn_t (by decide) ?_
          have := P3.f5 hT
          have hlf := P3.2.2.2.2.1
          refine x_emits I3 P3.1 (by omega) (fun h4 I4 m4 e1 e2 e3 e4 => ?_)
          have eo : x_o h4 lf (c3 - lf) = w := by unfold x_o; rw [show 3200 + lf + (c3 - lf) = 3200 + c3 by omega]; exact e3
          exact ih (c3 + 1) f3 _ h4 (by omega) I4 ((M2.tr m3).tr (x_EQ m4)) (P3.em m4 e1 e2 (x_sc_bin (P3.lo e2) eo (by rcases hw with rfl | rfl <;> decide) (by omega))) (by omega) (by omega)
      have sgn : mq_I h1 59 28 = 4 → mq_At mq_G (mq_tT lL) 169 28 [some (.retAddr 59), l1] [] h1 Q := by
        intro z
        have ht : ¬ mq_I h1 59 28 = 0 := by rw [z]; decide
        apply mq_go 40 [43]
        refine bn_c (fun _ => ?_) (fun _ => ?_)
        · exact nx 3 (Or.inr rfl) ht
        · exact nx 2 (Or.inl rfl) ht
      apply mq_go 40 [28]
      refine x_isSign (fun z _ => ?_) (fun _ => ?_)
      · refine bn_t (by decide) ?_
        exact sgn z
      · refine bn_f rfl ?_
        refine x_isSign (fun z _ => ?_) (fun _ => ?_)
        · refine bq_f (by decide) ?_
          exact sgn z
        · refine bq_t rfl ?_
          exact hq 0 h1 ⟨I1, m1, Or.inr ⟨rfl, c1, f1, P1, he1, hf1⟩⟩
  apply mq_enter 40 [10]
  refine x_prod I P hT he (fun v h1 ⟨I1, m1, hv⟩ => ?_)
  rcases hv with rfl | ⟨rfl, c1, f1, P1, he1, hf1⟩
  · refine bn_f rfl ?_
    exact hq _ h1 ⟨I1, m1, Or.inl rfl⟩
  · refine bn_t (by decide) ?_
    exact key 400 c1 f1 _ h1 (by omega) I1 m1 P1 he1 hf1
theorem x_comp (I : ck_Iv x_X h) {T lf c d f e : Nat} (P : x_ps G h T lf c d f) (hT : T ≤ 400) (he : c + e ≤ f) (hq : ∀ (v : Int32) h2, x_pe G h h2 T lf (d + 1) f e v → Q (some (.int v)) h2) : mq_Call mq_G (mq_tT lL) 170 [.retAddr 59] h Q := by
  apply mq_enter 40 [10]
  refine x_sum I P hT he (fun v h1 ⟨I1, m1, hv⟩ => ?_)
  rcases hv with rfl | ⟨rfl, c1, f1, P1, he1, hf1⟩
  · refine bn_f rfl ?_
    exact hq _ h1 ⟨I1, m1, Or.inl rfl⟩
  · refine bn_t (by decide) ?_
    have nx : ∀ (w : Int32), (w = 6 ∨ w = 7 ∨ w = 8) → ¬ mq_I h1 59 28 = 0 → mq_At mq_G (mq_tT lL) 170 74 [some (.retAddr 59), some (.int w)] [] h1 Q := by
      intro w hw ht
      apply mq_go 40 []
      refine x_reads2 I1 P1 hT ht (fun h2 f2 I2 m2 P2 hf2 => ?_)
      have M2 := m1.tr (x_RQ m2)
      refine x_sum I2 (e := e + 1) P2 hT (by omega) (fun v h3 ⟨I3, m3, hv⟩ => ?_)
      rcases hv with rfl | ⟨rfl, c3, f3, P3, he3, hf3⟩
      · refine bn_f rfl ?_
        exact hq _ h3 ⟨I3, M2.tr m3, Or.inl rfl⟩
      · refine bn_t (by decide) ?_
        have := P3.f5 hT
        have hlf := P3.2.2.2.2.1
        refine x_emits I3 P3.1 (by omega) (fun h4 I4 m4 e1 e2 e3 e4 => ?_)
        have eo : x_o h4 lf (c3 - lf) = w := by unfold x_o; rw [show 3200 + lf + (c3 - lf) = 3200 + c3 by omega]; exact e3
        exact hq _ h4 ⟨I4, (M2.tr m3).tr (x_EQ m4), Or.inr ⟨rfl, c3 + 1, f3, P3.em m4 e1 e2 (x_sc_bin (P3.lo e2) eo (by rcases hw with rfl | rfl | rfl <;> decide) (by omega)), by omega, by omega⟩⟩
    have sgn : mq_I h1 59 28 = 4 → mq_At mq_G (mq_tT lL) 170 43 [some (.retAddr 59), none] [] h1 Q := by
      intro z
      have ht : ¬ mq_I h1 59 28 = 0 := by rw [z]; decide
      apply mq_go 40 [74]
      refine bn_c (fun _ => ?_) (fun _ => ?_)
      · refine bn_c (fun _ => ?_) (fun _ => ?_)
        · exact nx 8 (Or.inr (Or.inr rfl)) ht
        · exact nx 7 (Or.inr (Or.inl rfl)) ht
      · exact nx 6 (Or.inl rfl) ht
    show mq_At mq_G (mq_tT lL) 170 10 [some (.retAddr 59), none] [] h1 Q
    apply mq_go 40 [43]
    refine x_isSign (fun z _ => ?_) (fun _ => ?_)
    · refine bn_t (by decide) ?_
      exact sgn z
    · refine bn_f rfl ?_
      refine x_isSign (fun z _ => ?_) (fun _ => ?_)
      · refine bn_t (by decide) ?_
        exact sgn z
      · refine bn_f rfl ?_
        refine x_isSign (fun z _ => ?_) (fun _ => ?_)
        · refine bn_t (by decide) ?_
          exact sgn z
        · refine bn_f rfl ?_
          refine x_errs I1 (by decide) (fun h2 I2 m2 => ?_)
          exact hq _ h2 ⟨I2, m1.tr (x_ErQ m2), Or.inl rfl⟩
end XH
