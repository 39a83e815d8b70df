/-! the reference's reading of tokens -/
section ZD
variable {lL : Nat} {h h1 h2 : mq_H} {Q : Option Value → mq_H → Prop} {b : Nat → Int} {n : Nat}
def z_kpL : List Nat := [0, 5, 10, 15, 21, 26, 31, 38, 44, 49, 54, 60, 64, 70, 77, 81, 87, 91, 95, 102, 107, 112, 115, 119, 123, 128, 132, 138, 143, 147]
def z_kp (r : Nat) : Nat := z_kpL.getD r 0
def z_ln (r : Nat) : Nat := z_kp (r + 1) - z_kp r - 1
def z_piL : List Nat := [0, 1, 2, 3, 4, 7, 8, 9, 5, 10, 11, 12, 13, 14, 15, 16, 17, 18, 19, 20, 6, 21, 22, 23, 24, 25, 26, 27, 28]
def z_pi (r : Nat) : Nat := z_piL.getD r 0
theorem z_kp_ok : ∀ r, r < 29 → z_kp (r + 1) = z_kp r + 1 + z_ln r ∧ z_kp r < 147 ∧ z_kp (r + 1) < 148 ∧ 1 ≤ z_ln r ∧ z_ln r ≤ 6 ∧ x_w (z_kp (r + 1)) = 32 ∧ z_pi r < 29 := by decide +kernel
theorem z_kp_ch : ∀ r, r < 29 → ∀ i, i < 6 → (i < z_ln r → (x_w (z_kp r + 1 + i)).toInt = z_W (z_pi r) i ∧ ¬ z_W (z_pi r) i = 32) ∧ (¬ i < z_ln r → z_W (z_pi r) i = 32) := by decide +kernel
theorem z_pi_all : ∀ w, w < 29 → ∃ r, r < 29 ∧ z_pi r = w := by decide +kernel
def z_TM (h : mq_H) (b : Nat → Int) (n : Nat) : Prop := mq_I h 59 25 = nI n ∧ n ≤ 400 ∧ (∀ i, i < n → (mq_I h 80 i).toInt = b i ∧ 0 ≤ b i ∧ b i ≤ 255) ∧ x_wd h
def z_MT (h : mq_H) (t : z_T) : Prop := mq_I h 59 27 = nI t.2.2.1 ∧ mq_I h 59 26 = nI t.2.2.2 ∧ ((mq_I h 59 28 = 0 ∧ t.1 = 0) ∨ (mq_I h 59 28 = 1 ∧ t.1 = 1) ∨ (mq_I h 59 28 = 3 ∧ t.1 = 2 ∧ ((mq_I h 59 29).toInt = 0 ↔ t.2.1 = true)) ∨ (mq_I h 59 28 = 4 ∧ z_sg t.1 ∧ (mq_I h 59 29).toInt = t.1) ∨ (mq_I h 59 28 = 2 ∧ ∃ r, r < 29 ∧ mq_I h 59 29 = nI r ∧ t.1 = 256 + (z_pi r : Int)))
theorem z_raw (TM : z_TM h b n) {j N : Nat} {y : Int32} (ey : y = nI j) (hj : j ≤ n) (h1 : j < n → ∀ x : Int32, x.toInt = b j → Q (some (.int x)) h) (h0 : j = n → Q (some (.int (-1))) h) : mq_PC mq_G (mq_tT lL) N 157 [.retAddr 59, .int y] h Q := by
  subst ey
  obtain ⟨t1, t2, t3, t4⟩ := TM
  refine mq_Call.pc ?_ N
  apply mq_enter 40 []
  refine bq_c (fun g => ?_) (fun g => ?_)
  · rw [t1, nI_leI (by omega) (by omega)] at g
    exact h0 (by omega)
  · rw [t1, nI_leI (by omega) (by omega)] at g
    refine gq_i (inb_nI (by omega) (by decide)) ?_
    refine h1 (by omega) _ ?_
    rw [nI_clamp (by omega)]
    exact (t3 j (by omega)).1
theorem z_mle {x : Int32} {N : Nat} (h1 : z_le x.toInt → Q (some (.int 1)) h) (h0 : ¬ z_le x.toInt → Q (some (.int 0)) h) : mq_PC mq_G (mq_tT lL) N 158 [.retAddr 59, .int x] h Q := by
  refine mq_Call.pc ?_ N
  apply mq_enter 40 []
  refine x_isIn (fun a c => ?_) (fun a => ?_)
  · have a : 97 ≤ x.toInt := a
    have c : x.toInt ≤ 122 := c
    refine bn_t (by decide) ?_
    exact gq_i rfl (h1 (Or.inl ⟨a, c⟩))
  · have a : 97 ≤ x.toInt → ¬ x.toInt ≤ 122 := a
    refine bn_f rfl ?_
    refine x_isIn (fun a2 c2 => ?_) (fun a2 => ?_)
    · have a2 : 65 ≤ x.toInt := a2
      have c2 : x.toInt ≤ 90 := c2
      refine bq_f (by decide) ?_
      exact gq_i rfl (h1 (Or.inr ⟨a2, c2⟩))
    · have a2 : 65 ≤ x.toInt → ¬ x.toInt ≤ 90 := a2
      refine bq_t rfl ?_
      refine gq_i rfl (h0 (fun z => ?_))
      rcases z with z | z
      · exact a z.1 z.2
      · exact a2 z.1 z.2
theorem z_mdi {x : Int32} {N : Nat} (h1 : z_di x.toInt → Q (some (.int 1)) h) (h0 : ¬ z_di x.toInt → Q (some (.int 0)) h) : mq_PC mq_G (mq_tT lL) N 159 [.retAddr 59, .int x] h Q := by
  refine mq_Call.pc ?_ N
  apply mq_enter 40 []
  refine x_isIn (fun a c => ?_) (fun a => ?_)
  · exact gq_i rfl (h1 ⟨a, c⟩)
  · exact gq_i rfl (h0 (fun z => a z.1 z.2))
theorem z_msg {x : Int32} {N : Nat} (h1 : z_sg x.toInt → Q (some (.int 1)) h) (h0 : ¬ z_sg x.toInt → Q (some (.int 0)) h) : mq_PC mq_G (mq_tT lL) N 160 [.retAddr 59, .int x] h Q := by
  refine mq_Call.pc ?_ N
  apply mq_enter 60 []
  refine bq_c (fun e => gq_i rfl (h1 (by have := y_eq e (k := 59) rfl; unfold z_sg; omega))) (fun e1 => ?_)
  refine bq_c (fun e => gq_i rfl (h1 (by have := y_eq e (k := 43) rfl; unfold z_sg; omega))) (fun e2 => ?_)
  refine bq_c (fun e => gq_i rfl (h1 (by have := y_eq e (k := 45) rfl; unfold z_sg; omega))) (fun e3 => ?_)
  refine bq_c (fun e => gq_i rfl (h1 (by have := y_eq e (k := 42) rfl; unfold z_sg; omega))) (fun e4 => ?_)
  refine bq_c (fun e => gq_i rfl (h1 (by have := y_eq e (k := 47) rfl; unfold z_sg; omega))) (fun e5 => ?_)
  refine bq_c (fun e => gq_i rfl (h1 (by have := y_eq e (k := 40) rfl; unfold z_sg; omega))) (fun e6 => ?_)
  refine bq_c (fun e => gq_i rfl (h1 (by have := y_eq e (k := 41) rfl; unfold z_sg; omega))) (fun e7 => ?_)
  refine bq_c (fun e => gq_i rfl (h1 (by have := y_eq e (k := 60) rfl; unfold z_sg; omega))) (fun e8 => ?_)
  refine bq_c (fun e => gq_i rfl (h1 (by have := y_eq e (k := 61) rfl; unfold z_sg; omega))) (fun e9 => ?_)
  refine bn_c (fun e10 => ?_) (fun e => gq_i rfl (h1 (by have := y_eq e (k := 62) rfl; unfold z_sg; omega)))
  have e1 : ¬ x.toInt = 59 := y_ne e1 rfl
  have e2 : ¬ x.toInt = 43 := y_ne e2 rfl
  have e3 : ¬ x.toInt = 45 := y_ne e3 rfl
  have e4 : ¬ x.toInt = 42 := y_ne e4 rfl
  have e5 : ¬ x.toInt = 47 := y_ne e5 rfl
  have e6 : ¬ x.toInt = 40 := y_ne e6 rfl
  have e7 : ¬ x.toInt = 41 := y_ne e7 rfl
  have e8 : ¬ x.toInt = 60 := y_ne e8 rfl
  have e9 : ¬ x.toInt = 61 := y_ne e9 rfl
  have e10 : ¬ x.toInt = 62 := y_ne e10 rfl
  exact gq_i rfl (h0 (fun z => by unfold z_sg at z; omega))
/-- wordAt: the word's number in the reference's order -/
theorem z_wat (TM : z_TM h b n) {f q : Nat} {a c : Int32} (ea : a = nI f) (ec : c = nI q) (hf : f < q) (hq : q ≤ n) (hl : ∀ i, f ≤ i → i < q → z_le (b i)) (N : Nat) : mq_PC mq_G (mq_tT lL) N 161 [.retAddr 59, .int a, .int c] h (fun v h2 => h2 = h ∧ ((∃ r, r < 29 ∧ v = some (.int (nI r)) ∧ z_mt b f q (z_pi r)) ∨ (v = some (.int (-1)) ∧ ∀ r, r < 29 → ¬ z_mt b f q (z_pi r)))) := by
  subst ea ec
  obtain ⟨t1, t2, t3, t4⟩ := TM
  have l32 : ∀ i, f ≤ i → i < q → ¬ b i = 32 := fun i i1 i2 e => by
    have := hl i i1 i2
    unfold z_le at this
    omega
  have lo : ∀ (N r : Nat) (x y : Int32) (l5 : Option Value), r ≤ 29 → x + 1 = nI r → y = nI (z_kp r) → (∀ s, s < r → ¬ z_mt b f q (z_pi s)) → mq_Pn mq_G (mq_tT lL) N 161 5 [some (.retAddr 59), some (.int (nI f)), some (.int (nI q)), some (.int x), some (.int y), l5] [] h (fun v h2 => h2 = h ∧ ((∃ r, r < 29 ∧ v = some (.int (nI r)) ∧ z_mt b f q (z_pi r)) ∨ (v = some (.int (-1)) ∧ ∀ r, r < 29 → ¬ z_mt b f q (z_pi r)))) := by
    intro N
    induction N with
    | zero => intro r x y l5 _ _ _ _; exact mq_Pn.z
    | succ N ih =>
      intro r x y l5 hr ex ey H
      subst ey
      have kb : z_kp r ≤ 147 := by
        rcases Nat.lt_or_ge r 29 with e | e
        · have := (z_kp_ok r e).2.1
          omega
        · have : r = 29 := by omega
          rw [this]
          decide
      refine mq_gl 60 [20] ?_
      refine bq_c (fun g => ?_) (fun g => ?_)
      · have g : nI 147 ≤ nI (z_kp r) := g
        rw [nI_leI (by omega) (by omega)] at g
        have : r = 29 := by
          rcases Nat.lt_or_ge r 29 with e | e
          · have := (z_kp_ok r e).2.1
            omega
          · omega
        exact ⟨rfl, Or.inr ⟨rfl, fun s hs => H s (by omega)⟩⟩
      · have g : ¬ nI 147 ≤ nI (z_kp r) := g
        rw [nI_leI (by omega) (by omega)] at g
        have hr : r < 29 := by
          rcases Nat.lt_or_ge r 29 with e | e
          · exact e
          · have : r = 29 := by omega
            rw [this] at g
            exact absurd (by decide : 147 ≤ z_kp 29) g
        obtain ⟨c1, c2, c3, c4, c5, c6, c7⟩ := z_kp_ok r hr
        have ch := z_kp_ch r hr
        have nxt : ¬ z_mt b f q (z_pi r) → ∀ s, s < r + 1 → ¬ z_mt b f q (z_pi s) := fun nm s hs => by
          rcases Nat.lt_or_ge s r with e | e
          · exact H s e
          · have : s = r := by omega
            rw [this]
            exact nm
        -- to the next word
        have ln : ∀ (N2 j : Nat) (y : Int32) (l5 : Option Value), N2 ≤ N → 1 ≤ j → j ≤ 1 + z_ln r → y = nI (z_kp r + j) → ¬ z_mt b f q (z_pi r) → mq_Pn mq_G (mq_tT lL) N2 161 94 [some (.retAddr 59), some (.int (nI f)), some (.int (nI q)), some (.int (x + 1)), some (.int y), l5] [] h (fun v h2 => h2 = h ∧ ((∃ r, r < 29 ∧ v = some (.int (nI r)) ∧ z_mt b f q (z_pi r)) ∨ (v = some (.int (-1)) ∧ ∀ r, r < 29 → ¬ z_mt b f q (z_pi r)))) := by
          intro N2
          induction N2 with
          | zero => intro j y l5 _ _ _ _ _; exact mq_Pn.z
          | succ N2 ih2 =>
            intro j y l5 hN j1 j2 ey nm
            subst ey
            refine mq_gl 60 [94, 5] ?_
            intro _
            rw [nI_clamp (by omega), t4 _ (by omega)]
            refine bq_c (fun e => ?_) (fun e => ?_)
            · have jl : j = 1 + z_ln r := by
                rcases Nat.lt_or_ge j (1 + z_ln r) with e2 | e2
                · exfalso
                  have q1 := ch (j - 1) (by omega)
                  have q2 := q1.1 (by omega)
                  rw [show z_kp r + 1 + (j - 1) = z_kp r + j by omega] at q2
                  rw [e] at q2
                  exact q2.2 q2.1.symm
                · omega
              refine (ih (r + 1) _ _ _ (by omega) (by rw [ex, nI_1]) (by rw [jl, c1, Nat.add_assoc]) (nxt nm)).dn (by omega)
            · exact ih2 (j + 1) _ _ (by omega) (by omega) (by
                rcases Nat.lt_or_ge j (1 + z_ln r) with e2 | e2
                · omega
                · exfalso
                  have : j = 1 + z_ln r := by omega
                  rw [this, ← Nat.add_assoc, ← c1] at e
                  exact e c6) (nI_1 _) nm
        have li : ∀ (N2 i : Nat) (z : Int32), N2 ≤ N → f + i ≤ q → i ≤ z_ln r → z = nI i → (∀ j, j < i → b (f + j) = (x_w (z_kp r + 1 + j)).toInt) → mq_Pn mq_G (mq_tT lL) N2 161 20 [some (.retAddr 59), some (.int (nI f)), some (.int (nI q)), some (.int (x + 1)), some (.int (nI (z_kp r))), some (.int z)] [] h (fun v h2 => h2 = h ∧ ((∃ r, r < 29 ∧ v = some (.int (nI r)) ∧ z_mt b f q (z_pi r)) ∨ (v = some (.int (-1)) ∧ ∀ r, r < 29 → ¬ z_mt b f q (z_pi r)))) := by
          intro N2
          induction N2 with
          | zero => intro i z _ _ _ _ _; exact mq_Pn.z
          | succ N2 ih2 =>
            intro i z hN fi il ez hm
            subst ez
            have e1 : nI (z_kp r) + 1 + nI i = nI (z_kp r + 1 + i) := by rw [nI_1, nI_add]
            have e2 : nI f + nI i = nI (f + i) := nI_add _ _
            -- where the comparison ends
            have k61 : ((f + i = q) ∨ (f + i < q ∧ ¬ b (f + i) = (x_w (z_kp r + 1 + i)).toInt)) → mq_Pn mq_G (mq_tT lL) N2 161 61 [some (.retAddr 59), some (.int (nI f)), some (.int (nI q)), some (.int (x + 1)), some (.int (nI (z_kp r))), some (.int (nI i))] [] h (fun v h2 => h2 = h ∧ ((∃ r, r < 29 ∧ v = some (.int (nI r)) ∧ z_mt b f q (z_pi r)) ∨ (v = some (.int (-1)) ∧ ∀ r, r < 29 → ¬ z_mt b f q (z_pi r)))) := by
              intro hc
              refine (mq_gl (n := N2) 60 [94] ?_).dn (by omega)
              refine bn_c (fun ne => ?_) (fun eq => ?_)
              · rw [e2, nI_eq (by omega) (by omega)] at ne
                obtain ⟨hc1, hc2⟩ : f + i < q ∧ ¬ b (f + i) = (x_w (z_kp r + 1 + i)).toInt := by
                  rcases hc with e | e
                  · exact absurd e ne
                  · exact e
                refine ln N2 1 _ _ (by omega) (by omega) (by omega) (nI_1 _) (fun m => ?_)
                rcases Nat.lt_or_ge i 6 with i6 | i6
                · have m2 := m.2 i i6
                  rw [if_pos hc1] at m2
                  rcases Nat.lt_or_ge i (z_ln r) with e | e
                  · exact hc2 (by rw [m2]; exact ((ch i i6).1 e).1.symm)
                  · rw [(ch i i6).2 (by omega)] at m2
                    exact l32 _ (by omega) hc1 m2
                · have := m.1
                  omega
              · rw [e2, nI_eq (by omega) (by omega)] at eq
                intro _
                rw [x_cl e1 (by omega), t4 _ (by omega)]
                refine bn_c (fun n32 => ?_) (fun e32 => ?_)
                · refine ln N2 1 _ _ (by omega) (by omega) (by omega) (nI_1 _) (fun m => ?_)
                  have il2 : i < z_ln r := by
                    rcases Nat.lt_or_ge i (z_ln r) with e | e
                    · exact e
                    · exfalso
                      have : i = z_ln r := by omega
                      rw [this, ← c1] at n32
                      exact n32 c6
                  have m2 := m.2 i (by omega)
                  rw [if_neg (by omega)] at m2
                  exact ((ch i (by omega)).1 il2).2 m2.symm
                · have il2 : i = z_ln r := by
                    rcases Nat.lt_or_ge i (z_ln r) with e | e
                    · exfalso
                      have q2 := (ch i (by omega)).1 e
                      rw [e32] at q2
                      exact q2.2 q2.1.symm
                    · omega
                  refine ⟨rfl, Or.inl ⟨r, hr, by rw [ex], by omega, fun j hj => ?_⟩⟩
                  rcases Nat.lt_or_ge j i with e | e
                  · rw [if_pos (by omega), hm j e]
                    exact ((ch j hj).1 (by omega)).1
                  · rw [if_neg (by omega)]
                    exact ((ch j hj).2 (by omega)).symm
            refine mq_gl 60 [20, 61] ?_
            refine bq_c (fun g2 => ?_) (fun g2 => ?_)
            · rw [e2, nI_leI (by omega) (by omega)] at g2
              exact k61 (Or.inl (by omega))
            · rw [e2, nI_leI (by omega) (by omega)] at g2
              intro _ _
              rw [x_cl e1 (by omega), x_cl e2 (by omega), t4 _ (by omega)]
              have tv := (t3 (f + i) (by omega)).1
              refine bn_c (fun ne => ?_) (fun eq => ?_)
              · exact k61 (Or.inr ⟨by omega, fun z => ne (x_toI (n := b (f + i)) z.symm tv)⟩)
              · have il2 : i < z_ln r := by
                  rcases Nat.lt_or_ge i (z_ln r) with e | e
                  · exact e
                  · exfalso
                    have : i = z_ln r := by omega
                    rw [this, ← c1, c6] at eq
                    have e5 := congrArg Int32.toInt eq
                    rw [← this, tv] at e5
                    exact l32 (f + i) (by omega) (by omega) e5.symm
                refine ih2 (i + 1) _ (by omega) (by omega) (by omega) (nI_1 _) (fun j hj => ?_)
                rcases Nat.lt_or_ge j i with e | e
                · exact hm j e
                · have : j = i := by omega
                  rw [this, eq, tv]
        exact li N 0 _ (Nat.le_refl _) (by omega) (by omega) rfl (fun j hj => by omega)
  revert N
  refine mq_el_in 40 [5] (fun N => ?_)
  exact lo N 0 _ _ _ (by omega) rfl rfl (fun s hs => by omega)
end ZD
