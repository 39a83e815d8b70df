/-! the class: wordOf, numberOf, advance -/
section ZC
variable {lL : Nat} {h h1 h2 : mq_H} {Q : Option Value → mq_H → Prop} {b : Nat → Int} {n : Nat}
theorem z_W_b : ∀ j, j < 174 → 0 ≤ (jk_w j).toInt ∧ (jk_w j).toInt < 128 := by decide +kernel
theorem z_wof (TC : z_TC h b n) {f q : Nat} (hf : f ≤ q) (hq : q ≤ n) (N : Nat) : mq_PC mq_G (mq_tT lL) N 96 [.retAddr 35, .int (nI f), .int (nI q)] h (fun v h2 => h2 = h ∧ ∃ r : Int32, v = some (.int r) ∧ z_wk b f q r.toInt) := by
  obtain ⟨t1, t2, t3⟩ := TC
  have lo : ∀ (N w : Nat) (y : Int32) (l4 l5 l6 : Option Value), w ≤ 29 → y = nI w → q - f ≤ 6 → (∀ v, v < w → ¬ z_mt b f q v) → mq_Pn mq_G (mq_tT lL) N 96 12 [some (.retAddr 35), some (.int (nI f)), some (.int (nI q)), some (.int y), l4, l5, l6] [] h (fun v h2 => h2 = h ∧ ∃ r : Int32, v = some (.int r) ∧ z_wk b f q r.toInt) := by
    intro N
    induction N with
    | zero => intro w y l4 l5 l6 _ _ _ _; exact mq_Pn.z
    | succ N ih =>
      intro w y l4 l5 l6 hw ey h6 H
      subst ey
      refine mq_gl 60 [24] ?_
      refine bq_c (fun g => ?_) (fun g => ?_)
      · have g : nI 29 ≤ nI w := g
        rw [nI_leI (by omega) (by omega)] at g
        exact ⟨rfl, _, rfl, Or.inr ⟨fun v hv => H v (by omega), rfl⟩⟩
      · have g : ¬ nI 29 ≤ nI w := g
        rw [nI_leI (by omega) (by omega)] at g
        have li : ∀ (N2 i : Nat) (s z : Int32) (l6 : Option Value), N2 ≤ N → i ≤ 6 → z = nI i → ((s = 1 ∧ ∀ j, j < i → (if f + j < q then b (f + j) else 32) = z_W w j) ∨ (s = 0 ∧ ∃ j, j < i ∧ ¬ (if f + j < q then b (f + j) else 32) = z_W w j)) → mq_Pn mq_G (mq_tT lL) N2 96 24 [some (.retAddr 35), some (.int (nI f)), some (.int (nI q)), some (.int (nI w)), some (.int s), some (.int z), l6] [] h (fun v h2 => h2 = h ∧ ∃ r : Int32, v = some (.int r) ∧ z_wk b f q r.toInt) := by
          intro N2
          induction N2 with
          | zero => intro i s z l6 _ _ _ _; exact mq_Pn.z
          | succ N2 ih2 =>
            intro i s z l6 hN hi ez hs
            subst ez
            have k90 : (s = 1 → i = 6) → mq_Pn mq_G (mq_tT lL) N2 96 90 [some (.retAddr 35), some (.int (nI f)), some (.int (nI q)), some (.int (nI w)), some (.int s), some (.int (nI i)), l6] [] h (fun v h2 => h2 = h ∧ ∃ r : Int32, v = some (.int r) ∧ z_wk b f q r.toInt) := by
              intro e6
              refine (mq_gl (n := N2) 40 [12] ?_).dn (by omega)
              rcases hs with ⟨s1, hs⟩ | ⟨s0, j, hj, hs⟩
              · have i6 := e6 s1
                refine bq_f (by rw [s1]; decide) ?_
                refine ⟨rfl, _, rfl, Or.inl ⟨w, by omega, ⟨h6, fun j hj => hs j (by omega)⟩, ?_⟩⟩
                show (nI 256 + nI w).toInt = _
                rw [nI_add, nI_toInt (by omega)]
                omega
              · refine bq_t s0 ?_
                refine (ih (w + 1) _ _ _ _ (by omega) (nI_1 _) h6 (fun v hv => ?_)).dn (by omega)
                rcases Nat.lt_or_ge v w with g2 | g2
                · exact H v g2
                · have : v = w := by omega
                  subst this
                  exact fun z => hs (z.2 j (by omega))
            refine mq_gl 60 [24, 90] ?_
            refine bq_c (fun g2 => ?_) (fun g2 => ?_)
            · have g2 : nI 6 ≤ nI i := g2
              rw [nI_leI (by omega) (by omega)] at g2
              exact k90 (fun _ => by omega)
            · have g2 : ¬ nI 6 ≤ nI i := g2
              rw [nI_leI (by omega) (by omega)] at g2
              refine bq_c (fun e0 => ?_) (fun e0 => ?_)
              · exact k90 (fun e1 => by rw [e1] at e0; exact absurd e0 (by decide))
              · rcases hs with ⟨s1, hs⟩ | ⟨s0, -⟩
                rotate_left
                · exact absurd s0 e0
                have e6i : nI w * 6 + nI i = nI (6 * w + i) := by rw [show (6 : Int32) = nI 6 from rfl, nI_mul, nI_add, Nat.mul_comm]
                have hW := z_W_b (6 * w + i) (by omega)
                have nx : ∀ (x : Int32), ((if f + i < q then b (f + i) else 32) = z_W w i ↔ x = jk_w (6 * w + i)) → (¬ x = jk_w (nI w * 6 + nI i).toNatClampNeg → mq_Pn mq_G (mq_tT lL) N2 96 24 [some (.retAddr 35), some (.int (nI f)), some (.int (nI q)), some (.int (nI w)), some (.int 0), some (.int (nI i + 1)), some (.int x)] [] h (fun v h2 => h2 = h ∧ ∃ r : Int32, v = some (.int r) ∧ z_wk b f q r.toInt)) ∧ (x = jk_w (nI w * 6 + nI i).toNatClampNeg → mq_Pn mq_G (mq_tT lL) N2 96 24 [some (.retAddr 35), some (.int (nI f)), some (.int (nI q)), some (.int (nI w)), some (.int 1), some (.int (nI i + 1)), some (.int x)] [] h (fun v h2 => h2 = h ∧ ∃ r : Int32, v = some (.int r) ∧ z_wk b f q r.toInt)) := by
                  intro x hx
                  rw [x_cl e6i (by omega)]
                  refine ⟨fun ne => ?_, fun eq => ?_⟩
                  · exact ih2 (i + 1) _ _ _ (by omega) (by omega) (nI_1 _) (Or.inr ⟨rfl, i, by omega, fun z => ne (hx.mp z)⟩)
                  · refine ih2 (i + 1) _ _ _ (by omega) (by omega) (nI_1 _) (Or.inl ⟨rfl, fun j hj => ?_⟩)
                    rcases Nat.lt_or_ge j i with g3 | g3
                    · exact hs j g3
                    · have : j = i := by omega
                      subst this
                      exact hx.mpr eq
                refine bq_c (fun g3 => ?_) (fun g3 => ?_)
                · have g3 : nI q ≤ nI f + nI i := g3
                  rw [nI_add, nI_leI (by omega) (by omega)] at g3
                  intro _
                  refine nx 32 ?_
                  rw [if_neg (by omega)]
                  exact ⟨fun z => (x_toI (n := 32) (show (jk_w (6 * w + i)).toInt = 32 from z.symm) rfl).symm, fun z => by show (32 : Int) = (jk_w (6 * w + i)).toInt; rw [← z]; rfl⟩
                · have g3 : ¬ nI q ≤ nI f + nI i := g3
                  rw [nI_add, nI_leI (by omega) (by omega)] at g3
                  intro _ _
                  have tp := t3 (f + i) (by omega)
                  have ec : (nI f + nI i).toNatClampNeg = f + i := x_cl (nI_add _ _) (by omega)
                  rw [ec]
                  refine nx (mq_I h 36 (f + i)) ?_
                  rw [if_pos (by omega)]
                  have q1 := z_by_eq tp.2.1 tp.2.2 hW.1 hW.2
                  refine ⟨fun z => x_toI (n := (jk_w (6 * w + i)).toInt) ?_ rfl, fun z => ?_⟩
                  · rw [tp.1]
                    exact q1.mpr z
                  · refine q1.mp ?_
                    rw [← tp.1, z]
        exact li N 0 _ _ _ (Nat.le_refl _) (by omega) rfl (Or.inl ⟨rfl, fun j hj => by omega⟩)
  revert N
  refine mq_el_in 40 [12] (fun N => ?_)
  have e1 : (nI q - nI f).toInt = (q : Int) - f := by
    rw [ci_sub (by rw [nI_toInt (by omega), nI_toInt (by omega)]; omega), nI_toInt (by omega), nI_toInt (by omega)]
  refine bq_c (fun g => ?_) (fun g => ?_)
  · rw [le_i, e1] at g
    have g : (q : Int) - f ≤ 6 := g
    exact lo N 0 _ _ _ _ (by omega) rfl (by omega) (fun v hv => by omega)
  · rw [le_i, e1] at g
    have g : ¬ (q : Int) - f ≤ 6 := g
    exact ⟨rfl, _, rfl, Or.inr ⟨fun w _ z => by have := z.1; omega, rfl⟩⟩
theorem z_nof (TC : z_TC h b n) {f q : Nat} (hf : f ≤ q) (hq : q ≤ n) (h4 : q ≤ f + 4) (hd : ∀ i, f ≤ i → i < q → z_di (b i)) (N : Nat) : mq_PC mq_G (mq_tT lL) N 97 [.retAddr 35, .int (nI f), .int (nI q)] h (fun v h2 => h2 = h ∧ ∃ r : Int32, v = some (.int r) ∧ (r.toInt = 0 ↔ ∀ i, f ≤ i → i < q → b i = 48)) := by
  obtain ⟨t1, t2, t3⟩ := TC
  have lp : ∀ (N j : Nat) (s y : Int32), f ≤ j → j ≤ q → y = nI j → 0 ≤ s.toInt → s.toInt < 10 ^ (j - f) → (s.toInt = 0 ↔ ∀ i, f ≤ i → i < j → b i = 48) → mq_Pn mq_G (mq_tT lL) N 97 5 [some (.retAddr 35), some (.int (nI f)), some (.int (nI q)), some (.int s), some (.int y)] [] h (fun v h2 => h2 = h ∧ ∃ r : Int32, v = some (.int r) ∧ (r.toInt = 0 ↔ ∀ i, f ≤ i → i < q → b i = 48)) := by
    intro N
    induction N with
    | zero => intro j s y _ _ _ _ _ _; exact mq_Pn.z
    | succ N ih =>
      intro j s y hj1 hj2 ey s0 s1 hs
      subst ey
      refine mq_gl 60 [5] ?_
      refine bq_c (fun g => ?_) (fun g => ?_)
      · rw [nI_leI (by omega) (by omega)] at g
        have : j = q := by omega
        subst this
        exact ⟨rfl, s, rfl, hs⟩
      · rw [nI_leI (by omega) (by omega)] at g
        intro _
        rw [nI_clamp (by omega)]
        have tp := t3 j (by omega)
        have d := hd j hj1 (by omega)
        unfold z_di at d
        have tv : (mq_I h 36 j).toInt = b j := by
          rw [tp.1]
          unfold z_by
          rw [if_pos (by omega)]
        have p1 : (10 : Int) ^ (j - f) ≤ 1000 := by
          have : j - f = 0 ∨ j - f = 1 ∨ j - f = 2 ∨ j - f = 3 := by omega
          rcases this with e | e | e | e <;> rw [e] <;> decide
        have p2 : (10 : Int) ^ (j + 1 - f) = 10 * 10 ^ (j - f) := by
          rw [show j + 1 - f = (j - f) + 1 by omega, Int.pow_succ, Int.mul_comm]
        have m1 : (s * 10).toInt = s.toInt * 10 := ci_mul (y := 10) ⟨by show (-2147483648 : Int) ≤ s.toInt * 10; omega, by show s.toInt * (10 : Int) ≤ _; omega⟩
        have m2 : (s * 10 + mq_I h 36 j).toInt = s.toInt * 10 + b j := by rw [ci_add (by rw [m1, tv]; omega), m1, tv]
        have m3 : (s * 10 + mq_I h 36 j - 48).toInt = s.toInt * 10 + b j - 48 := by
          rw [ci_sub (y := 48) (by rw [m2]; exact ⟨by show (-2147483648 : Int) ≤ _ - 48; omega, by show _ - (48 : Int) ≤ _; omega⟩), m2]
          rfl
        refine ih (j + 1) _ _ (by omega) (by omega) (nI_1 _) (by rw [m3]; omega) (by rw [m3, p2]; omega) ?_
        rw [m3]
        refine ⟨fun z i i1 i2 => ?_, fun z => ?_⟩
        · rcases Nat.lt_or_ge i j with g2 | g2
          · exact hs.mp (by omega) i i1 g2
          · have : i = j := by omega
            subst this
            omega
        · have := z j hj1 (by omega)
          have := hs.mpr (fun i i1 i2 => z i i1 (by omega))
          omega
  revert N
  refine mq_el_in 40 [5] (fun N => ?_)
  exact lp N f _ _ (Nat.le_refl _) hf rfl (by decide) (by rw [Nat.sub_self]; decide) ⟨fun _ i i1 i2 => by omega, fun _ => rfl⟩
def z_fr (h h2 : mq_H) : Prop := mq_N h2 = mq_N h ∧ ∀ a k, ¬ (a = 35 ∧ (k = 4 ∨ k = 5 ∨ k = 6 ∨ k = 7)) → mq_I h2 a k = mq_I h a k
theorem z_adv (TC : z_TC h b n) {p : Nat} (hp : p ≤ n) (ep : mq_I h 35 7 = nI p) (N : Nat) : mq_PC mq_G (mq_tT lL) N 95 [.retAddr 35] h (fun v h2 => v = none ∧ ∃ t, z_LX b n p t ∧ z_CT h2 t ∧ z_fr h h2) := by
  have t1 := TC.1
  have t2 := TC.2.1
  have t3 := TC.2.2
  -- the end
  have k207 : ∀ (N q f : Nat) (y : Int32) (k : Int) (z : Bool) (h1 : mq_H), y = nI q → z_LX b n p (k, z, f, q) → (mq_I h1 35 4).toInt = k → mq_I h1 35 6 = nI f → (k = 2 → ((mq_I h1 35 5).toInt = 0 ↔ z = true)) → z_fr h h1 → mq_Pn mq_G (mq_tT lL) N 95 207 [some (.retAddr 35), some (.int (nI f)), some (.int y)] [] h1 (fun v h2 => v = none ∧ ∃ t, z_LX b n p t ∧ z_CT h2 t ∧ z_fr h h2) := by
    intro N q f y k z h1 ey lx e1 e2 e3 fr
    refine (mq_gl (n := N) 20 [] ?_).dn (by omega)
    refine ⟨rfl, (k, z, f, q), lx, ⟨e1, e2, ey, e3⟩, fr.1, fun a j ha => ?_⟩
    exact (ck_setI_at (fun w => ha ⟨w.1, by omega⟩)).trans (fr.2 a j ha)
  have k31 : ∀ (N f : Nat) (l2 : Option Value), p ≤ f → f ≤ n → (∀ i, p ≤ i → i < f → z_bl (b i)) → (f = n ∨ ¬ z_bl (b f)) → mq_Pn mq_G (mq_tT lL) N 95 31 [some (.retAddr 35), some (.int (nI f)), l2] [] h (fun v h2 => v = none ∧ ∃ t, z_LX b n p t ∧ z_CT h2 t ∧ z_fr h h2) := by
    intro N f l2 pf fn bl en
    have fr1 : z_fr h (mq_setI h 35 6 (nI f)) := ⟨rfl, fun a j ha => ck_setI_at (fun w => ha ⟨w.1, by omega⟩)⟩
    refine (mq_gl (n := N) 60 [66, 117, 207] ?_).dn (by omega)
    refine bq_c (fun g => ?_) (fun g => ?_)
    · have g : nI f < mq_I h 35 1 := g
      rw [t1, lt_i, nI_toInt (by omega), nI_toInt (by omega)] at g
      have nb : ¬ z_bl (b f) := by
        rcases en with e | e
        · omega
        · exact e
      have tp := t3 f (by omega)
      intro _
      refine z_cle (fun le => ?_) (fun nle => ?_)
      · have le : z_le (mq_I h 36 (nI f).toNatClampNeg).toInt := le
        rw [nI_clamp (by omega), tp.1, z_by_le tp.2.1 tp.2.2] at le
        refine bq_f (by decide) ?_
        have lp : ∀ (N j : Nat) (y : Int32), f ≤ j → j ≤ n → y = nI j → (∀ i, f ≤ i → i < j → z_le (b i)) → mq_Pn mq_G (mq_tT lL) N 95 66 [some (.retAddr 35), some (.int (nI f)), some (.int y)] [] (mq_setI h 35 6 (nI f)) (fun v h2 => v = none ∧ ∃ t, z_LX b n p t ∧ z_CT h2 t ∧ z_fr h h2) := by
          intro N
          induction N with
          | zero => intro j y _ _ _ _; exact mq_Pn.z
          | succ N ih =>
            intro j y fj jn ey run
            subst ey
            have ex : (j = n ∨ ¬ z_le (b j)) → mq_Pn mq_G (mq_tT lL) N 95 92 [some (.retAddr 35), some (.int (nI f)), some (.int (nI j))] [] (mq_setI h 35 6 (nI f)) (fun v h2 => v = none ∧ ∃ t, z_LX b n p t ∧ z_CT h2 t ∧ z_fr h h2) := by
              intro en2
              refine (mq_gl (n := N) 40 [207] ?_).dn (by omega)
              refine mq_PC.mono (z_wof (h := mq_setI h 35 6 (nI f)) ⟨t1, t2, t3⟩ fj jn N) (fun v h2 ⟨eh, r, ev, wk⟩ => ?_)
              subst eh ev
              have fj2 : f < j := by
                rcases Nat.lt_or_ge f j with e | e
                · exact e
                · have : j = f := by omega
                  subst this
                  rcases en2 with e2 | e2
                  · omega
                  · exact absurd le e2
              refine k207 N j f _ r.toInt false _ rfl ⟨pf, fn, bl, Or.inr ⟨by show f < n; omega, nb, fj2, jn, Or.inl ⟨le, run, en2, wk, rfl⟩⟩⟩ rfl rfl (fun e2 => ?_) ⟨rfl, fun a i ha => (ck_setI_at (fun w => ha ⟨w.1, by omega⟩)).trans (fr1.2 a i ha)⟩
              rcases wk with ⟨w, _, _, e3⟩ | ⟨_, e3⟩ <;> omega
            refine mq_gl 60 [66, 92] ?_
            refine bq_c (fun g2 => ?_) (fun g2 => ?_)
            · have g2 : mq_I h 35 1 ≤ nI j := g2
              rw [t1, nI_leI (by omega) (by omega)] at g2
              exact ex (Or.inl (by omega))
            · have g2 : ¬ mq_I h 35 1 ≤ nI j := g2
              rw [t1, nI_leI (by omega) (by omega)] at g2
              have tj := t3 j (by omega)
              intro _
              refine z_cle (fun le2 => ?_) (fun le2 => ?_)
              · have le2 : z_le (mq_I h 36 (nI j).toNatClampNeg).toInt := le2
                rw [nI_clamp (by omega), tj.1, z_by_le tj.2.1 tj.2.2] at le2
                refine bq_f (by decide) ?_
                exact ih (j + 1) _ (by omega) (by omega) (nI_1 _) (fun i i1 i2 => by
                  rcases Nat.lt_or_ge i j with e | e
                  · exact run i i1 e
                  · have : i = j := by omega
                    rw [this]
                    exact le2)
              · have le2 : ¬ z_le (mq_I h 36 (nI j).toNatClampNeg).toInt := le2
                rw [nI_clamp (by omega), tj.1, z_by_le tj.2.1 tj.2.2] at le2
                exact bq_t rfl (ex (Or.inr le2))
        exact lp N f _ (Nat.le_refl _) (by omega) rfl (fun i i1 i2 => by omega)
      · have nle : ¬ z_le (mq_I h 36 (nI f).toNatClampNeg).toInt := nle
        rw [nI_clamp (by omega), tp.1, z_by_le tp.2.1 tp.2.2] at nle
        refine bq_t rfl ?_
        intro _
        refine z_cdi (fun di => ?_) (fun ndi => ?_)
        · have di : z_di (mq_I h 36 (nI f).toNatClampNeg).toInt := di
          rw [nI_clamp (by omega), tp.1, z_by_di tp.2.1 tp.2.2] at di
          refine bq_f (by decide) ?_
          have lp : ∀ (N j : Nat) (y : Int32), f ≤ j → j ≤ n → y = nI j → (∀ i, f ≤ i → i < j → z_di (b i)) → mq_Pn mq_G (mq_tT lL) N 95 117 [some (.retAddr 35), some (.int (nI f)), some (.int y)] [] (mq_setI h 35 6 (nI f)) (fun v h2 => v = none ∧ ∃ t, z_LX b n p t ∧ z_CT h2 t ∧ z_fr h h2) := by
            intro N
            induction N with
            | zero => intro j y _ _ _ _; exact mq_Pn.z
            | succ N ih =>
              intro j y fj jn ey run
              subst ey
              have ex : (j = n ∨ ¬ z_di (b j)) → mq_Pn mq_G (mq_tT lL) N 95 143 [some (.retAddr 35), some (.int (nI f)), some (.int (nI j))] [] (mq_setI h 35 6 (nI f)) (fun v h2 => v = none ∧ ∃ t, z_LX b n p t ∧ z_CT h2 t ∧ z_fr h h2) := by
                intro en2
                have fj2 : f < j := by
                  rcases Nat.lt_or_ge f j with e | e
                  · exact e
                  · have : j = f := by omega
                    subst this
                    rcases en2 with e2 | e2
                    · omega
                    · exact absurd di e2
                have e1 : (nI j - nI f).toInt = (j : Int) - f := by
                  rw [ci_sub (by rw [nI_toInt (by omega), nI_toInt (by omega)]; omega), nI_toInt (by omega), nI_toInt (by omega)]
                have e4 : nI f + 4 = nI (f + 4) := nI_add f 4
                have k156 : ∀ (k : Int32), ((j - f ≤ 4 ∧ k = 2) ∨ (¬ j - f ≤ 4 ∧ k = 1)) → mq_Pn mq_G (mq_tT lL) N 95 156 [some (.retAddr 35), some (.int (nI f)), some (.int (nI j))] [.int k, .retAddr 35] (mq_setI h 35 6 (nI f)) (fun v h2 => v = none ∧ ∃ t, z_LX b n p t ∧ z_CT h2 t ∧ z_fr h h2) := by
                  intro k hk
                  refine (mq_gl (n := N) 40 [207] ?_).dn (by omega)
                  have emin : ∃ q2, (if nI f + 4 < nI j then nI f + 4 else nI j) = nI q2 ∧ f ≤ q2 ∧ q2 ≤ j ∧ q2 ≤ f + 4 ∧ (j - f ≤ 4 → q2 = j) := by
                    by_cases e : nI f + 4 < nI j
                    · rw [if_pos e]
                      rw [e4, lt_i, nI_toInt (by omega), nI_toInt (by omega)] at e
                      exact ⟨f + 4, e4, by omega, by omega, by omega, fun _ => by omega⟩
                    · rw [if_neg e]
                      rw [e4, lt_i, nI_toInt (by omega), nI_toInt (by omega)] at e
                      exact ⟨j, rfl, by omega, by omega, by omega, fun _ => rfl⟩
                  obtain ⟨q2, eq, q3, q4, q5, q6⟩ := emin
                  show mq_PC mq_G (mq_tT lL) N 97 [.retAddr 35, .int (nI f), .int (if nI f + 4 < nI j then nI f + 4 else nI j)] (mq_setI (mq_setI h 35 6 (nI f)) 35 4 k) _
                  rw [eq]
                  refine mq_PC.mono (z_nof (h := mq_setI (mq_setI h 35 6 (nI f)) 35 4 k) ⟨t1, t2, t3⟩ q3 (by omega) q5 (fun i i1 i2 => run i i1 (by omega)) N) (fun v h2 ⟨eh, r, ev, nz⟩ => ?_)
                  subst eh ev
                  have fr2 : z_fr h (mq_setI (mq_setI (mq_setI h 35 6 (nI f)) 35 4 k) 35 5 r) := ⟨rfl, fun a i ha => (ck_setI_at (fun w => ha ⟨w.1, by omega⟩)).trans ((ck_setI_at (fun w => ha ⟨w.1, by omega⟩)).trans (fr1.2 a i ha))⟩
                  rcases hk with ⟨k4, rfl⟩ | ⟨k4, rfl⟩
                  · rw [q6 k4] at nz
                    exact k207 N j f _ 2 (decide (r.toInt = 0)) _ rfl ⟨pf, fn, bl, Or.inr ⟨by show f < n; omega, nb, fj2, jn, Or.inr (Or.inl ⟨di, run, en2, Or.inl ⟨k4, rfl, by show decide (r.toInt = 0) = true ↔ _; rw [decide_eq_true_iff]; exact nz⟩⟩)⟩⟩ rfl rfl (fun _ => by show r.toInt = 0 ↔ _; rw [decide_eq_true_iff]) fr2
                  · exact k207 N j f _ 1 false _ rfl ⟨pf, fn, bl, Or.inr ⟨by show f < n; omega, nb, fj2, jn, Or.inr (Or.inl ⟨di, run, en2, Or.inr ⟨k4, rfl, rfl⟩⟩)⟩⟩ rfl rfl (fun e => absurd e (by decide)) fr2
                refine (mq_gl (n := N) 40 [156] ?_).dn (by omega)
                refine bq_c (fun g2 => ?_) (fun g2 => ?_)
                · rw [lt_i, e1] at g2
                  have g2 : (4 : Int) < (j : Int) - f := g2
                  exact k156 1 (Or.inr ⟨by omega, rfl⟩)
                · rw [lt_i, e1] at g2
                  have g2 : ¬ (4 : Int) < (j : Int) - f := g2
                  exact k156 2 (Or.inl ⟨by omega, rfl⟩)
              refine mq_gl 60 [117, 143] ?_
              refine bq_c (fun g2 => ?_) (fun g2 => ?_)
              · have g2 : mq_I h 35 1 ≤ nI j := g2
                rw [t1, nI_leI (by omega) (by omega)] at g2
                exact ex (Or.inl (by omega))
              · have g2 : ¬ mq_I h 35 1 ≤ nI j := g2
                rw [t1, nI_leI (by omega) (by omega)] at g2
                have tj := t3 j (by omega)
                intro _
                refine z_cdi (fun le2 => ?_) (fun le2 => ?_)
                · have le2 : z_di (mq_I h 36 (nI j).toNatClampNeg).toInt := le2
                  rw [nI_clamp (by omega), tj.1, z_by_di tj.2.1 tj.2.2] at le2
                  refine bq_f (by decide) ?_
                  exact ih (j + 1) _ (by omega) (by omega) (nI_1 _) (fun i i1 i2 => by
                    rcases Nat.lt_or_ge i j with e | e
                    · exact run i i1 e
                    · have : i = j := by omega
                      rw [this]
                      exact le2)
                · have le2 : ¬ z_di (mq_I h 36 (nI j).toNatClampNeg).toInt := le2
                  rw [nI_clamp (by omega), tj.1, z_by_di tj.2.1 tj.2.2] at le2
                  exact bq_t rfl (ex (Or.inr le2))
          exact lp N f _ (Nat.le_refl _) (by omega) rfl (fun i i1 i2 => by omega)
        · have ndi : ¬ z_di (mq_I h 36 (nI f).toNatClampNeg).toInt := ndi
          rw [nI_clamp (by omega), tp.1, z_by_di tp.2.1 tp.2.2] at ndi
          refine bq_t rfl ?_
          intro _
          have nx : ∀ k : Int32, ((z_sg (b f) ∧ k.toInt = b f) ∨ (¬ z_sg (b f) ∧ k.toInt = 1)) → mq_Pn mq_G (mq_tT lL) N 95 207 [some (.retAddr 35), some (.int (nI f)), some (.int (nI f + 1))] [] (mq_setI (mq_setI h 35 6 (nI f)) 35 4 k) (fun v h2 => v = none ∧ ∃ t, z_LX b n p t ∧ z_CT h2 t ∧ z_fr h h2) := by
            intro k hk
            refine k207 N (f + 1) f _ k.toInt false _ (nI_1 _) ⟨pf, fn, bl, Or.inr ⟨by show f < n; omega, nb, by show f < f + 1; omega, by show f + 1 ≤ n; omega, Or.inr (Or.inr ⟨nle, ndi, rfl, hk, rfl⟩)⟩⟩ rfl rfl (fun e => ?_) ⟨rfl, fun a i ha => (ck_setI_at (fun w => ha ⟨w.1, by omega⟩)).trans (fr1.2 a i ha)⟩
            rcases hk with ⟨k1, k2⟩ | ⟨k1, k2⟩
            · unfold z_sg at k1
              omega
            · omega
          refine z_csg (by show (mq_I h 36 (nI f).toNatClampNeg).toInt < 128; rw [nI_clamp (by omega), tp.1]; unfold z_by; split <;> omega) (fun sg => ?_) (fun nsg => ?_)
          · have sg : z_sg (mq_I h 36 (nI f).toNatClampNeg).toInt := sg
            rw [nI_clamp (by omega), tp.1, z_by_sg tp.2.1 tp.2.2] at sg
            refine bq_f (by decide) ?_
            intro _
            refine nx _ (Or.inl ⟨sg, ?_⟩)
            show (mq_I h 36 (nI f).toNatClampNeg).toInt = b f
            rw [nI_clamp (by omega), tp.1]
            unfold z_sg at sg
            unfold z_by
            rw [if_pos (by omega)]
          · have nsg : ¬ z_sg (mq_I h 36 (nI f).toNatClampNeg).toInt := nsg
            rw [nI_clamp (by omega), tp.1, z_by_sg tp.2.1 tp.2.2] at nsg
            refine bq_t rfl ?_
            exact nx 1 (Or.inr ⟨nsg, rfl⟩)
    · have g : ¬ nI f < mq_I h 35 1 := g
      rw [t1, lt_i, nI_toInt (by omega), nI_toInt (by omega)] at g
      have : f = n := by omega
      subst this
      exact k207 N f f _ 0 false _ rfl ⟨pf, Nat.le_refl _, bl, Or.inl ⟨rfl, rfl, rfl, rfl⟩⟩ rfl rfl (fun e => absurd e (by decide)) ⟨rfl, fun a i ha => (ck_setI_at (fun w => ha ⟨w.1, by omega⟩)).trans (fr1.2 a i ha)⟩
  have l5 : ∀ (N j : Nat) (y : Int32), p ≤ j → j ≤ n → y = nI j → (∀ i, p ≤ i → i < j → z_bl (b i)) → mq_Pn mq_G (mq_tT lL) N 95 5 [some (.retAddr 35), some (.int y), none] [] h (fun v h2 => v = none ∧ ∃ t, z_LX b n p t ∧ z_CT h2 t ∧ z_fr h h2) := by
    intro N
    induction N with
    | zero => intro j y _ _ _ _; exact mq_Pn.z
    | succ N ih =>
      intro j y pj jn ey bl
      subst ey
      refine mq_gl 60 [5, 31] ?_
      refine bq_c (fun g => ?_) (fun g => ?_)
      · have g : mq_I h 35 1 ≤ nI j := g
        rw [t1, nI_leI (by omega) (by omega)] at g
        exact k31 N j _ pj jn bl (Or.inl (by omega))
      · have g : ¬ mq_I h 35 1 ≤ nI j := g
        rw [t1, nI_leI (by omega) (by omega)] at g
        have tj := t3 j (by omega)
        intro _
        refine z_cbl (fun le2 => ?_) (fun le2 => ?_)
        · have le2 : z_bl (mq_I h 36 (nI j).toNatClampNeg).toInt := le2
          rw [nI_clamp (by omega), tj.1, z_by_bl tj.2.1 tj.2.2] at le2
          refine bq_f (by decide) ?_
          exact ih (j + 1) _ (by omega) (by omega) (nI_1 _) (fun i i1 i2 => by
            rcases Nat.lt_or_ge i j with e | e
            · exact bl i i1 e
            · have : i = j := by omega
              rw [this]
              exact le2)
        · have le2 : ¬ z_bl (mq_I h 36 (nI j).toNatClampNeg).toInt := le2
          rw [nI_clamp (by omega), tj.1, z_by_bl tj.2.1 tj.2.2] at le2
          exact bq_t rfl (k31 N j _ pj jn bl (Or.inr le2))
  revert N
  refine mq_el_in 40 [5] (fun N => ?_)
  exact l5 N p _ (Nat.le_refl _) hp ep (fun i i1 i2 => by omega)
end ZC
