/-! the reference: reads -/
section ZR
variable {lL : Nat} {h h1 h2 : mq_H} {Q : Option Value → mq_H → Prop} {b : Nat → Int} {n : Nat}
def z_fm (h h2 : mq_H) : Prop := mq_N h2 = mq_N h ∧ ∀ a k, ¬ (a = 59 ∧ (k = 26 ∨ k = 27 ∨ k = 28 ∨ k = 29)) → mq_I h2 a k = mq_I h a k
theorem z_fm.rf (h : mq_H) : z_fm h h := ⟨rfl, fun _ _ _ => rfl⟩
theorem z_fm.st {k : Nat} {x : Int32} (F : z_fm h h1) (hk : k = 26 ∨ k = 27 ∨ k = 28 ∨ k = 29) : z_fm h (mq_setI h1 59 k x) := ⟨F.1, fun a j ha => (ck_setI_at (fun w => ha ⟨w.1, by omega⟩)).trans (F.2 a j ha)⟩
theorem z_TM.fm (F : z_fm h h1) (TM : z_TM h b n) : z_TM h1 b n := by
  obtain ⟨t1, t2, t3, t4⟩ := TM
  exact ⟨(F.2 _ _ (by omega)).trans t1, t2, fun i hi => by rw [F.2 _ _ (by omega)]; exact t3 i hi, fun k hk => (F.2 _ _ (by omega)).trans (t4 k hk)⟩
theorem z_rds (TM : z_TM h b n) {p : Nat} (hp : p ≤ n) (ep : mq_I h 59 26 = nI p) (N : Nat) : mq_PC mq_G (mq_tT lL) N 162 [.retAddr 59] h (fun v h2 => v = none ∧ ∃ t, z_LX b n p t ∧ z_MT h2 t ∧ z_fm h h2) := by
  have t2 := TM.2.1
  have t3 := TM.2.2.1
  -- letters
  have k123 : ∀ (N f j : Nat) (l1 : Option Value) (H : mq_H), z_fm h H → mq_I H 59 27 = nI f → mq_I H 59 26 = nI j → mq_I H 59 28 = 1 → p ≤ f → (∀ i, p ≤ i → i < f → z_bl (b i)) → ¬ z_bl (b f) → f < j → j ≤ n → (∀ i, f ≤ i → i < j → z_le (b i)) → (j = n ∨ ¬ z_le (b j)) → mq_Pn mq_G (mq_tT lL) N 162 123 [some (.retAddr 59), l1] [] H (fun v h2 => v = none ∧ ∃ t, z_LX b n p t ∧ z_MT h2 t ∧ z_fm h h2) := by
    intro N f j l1 H F e1 e2 e3 pf bl nb fj jn run en
    refine (mq_gl (n := N) 60 [] ?_).dn (by omega)
    refine mq_PC.mono (z_wat (TM.fm F) e1 e2 fj jn run N) (fun v h2 ⟨eh, hv⟩ => ?_)
    subst eh
    rcases hv with ⟨r, hr, rfl, mt⟩ | ⟨rfl, nm⟩
    · refine bq_f (fun z => ?_) ?_
      · have z : nI r = -1 := z
        have := congrArg Int32.toInt z
        rw [nI_toInt (by omega)] at this
        have : (r : Int) = -1 := this
        omega
      · refine ⟨rfl, (256 + (z_pi r : Int), false, f, j), ⟨pf, by show f ≤ n; omega, bl, Or.inr ⟨by show f < n; omega, nb, fj, jn, Or.inl ⟨run f (Nat.le_refl _) fj, run, en, Or.inl ⟨z_pi r, (z_kp_ok r hr).2.2.2.2.2.2, mt, rfl⟩, rfl⟩⟩⟩, ⟨e1, e2, Or.inr (Or.inr (Or.inr (Or.inr ⟨rfl, r, hr, rfl, rfl⟩)))⟩, (F.st (by omega)).st (by omega)⟩
    · refine bq_t rfl ?_
      refine ⟨rfl, (1, false, f, j), ⟨pf, by show f ≤ n; omega, bl, Or.inr ⟨by show f < n; omega, nb, fj, jn, Or.inl ⟨run f (Nat.le_refl _) fj, run, en, Or.inr ⟨fun w hw m => ?_, rfl⟩, rfl⟩⟩⟩, ⟨e1, e2, Or.inr (Or.inl ⟨e3, rfl⟩)⟩, F.st (by omega)⟩
      obtain ⟨r, hr, er⟩ := z_pi_all w hw
      rw [← er] at m
      exact nm r hr m
  have l95 : ∀ (N f j : Nat) (l1 : Option Value) (H : mq_H), z_fm h H → mq_I H 59 27 = nI f → mq_I H 59 26 = nI j → mq_I H 59 28 = 1 → p ≤ f → (∀ i, p ≤ i → i < f → z_bl (b i)) → ¬ z_bl (b f) → f < j → j ≤ n → (∀ i, f ≤ i → i < j → z_le (b i)) → mq_Pn mq_G (mq_tT lL) N 162 95 [some (.retAddr 59), l1] [] H (fun v h2 => v = none ∧ ∃ t, z_LX b n p t ∧ z_MT h2 t ∧ z_fm h h2) := by
    intro N
    induction N with
    | zero => intro f j l1 H _ _ _ _ _ _ _ _ _ _; exact mq_Pn.z
    | succ N ih =>
      intro f j l1 H F e1 e2 e3 pf bl nb fj jn run
      refine mq_gl 60 [95, 123] ?_
      refine z_raw (TM.fm F) e2 jn (fun hj x ex => ?_) (fun ej => ?_)
      · refine z_mle (fun le => ?_) (fun nle => ?_)
        · rw [ex] at le
          refine bq_f (by decide) ?_
          exact ih f (j + 1) _ _ (F.st (by omega)) e1 (by show mq_I H 59 26 + 1 = _; rw [e2, nI_1]) e3 pf bl nb (by omega) (by omega) (fun i i1 i2 => by
            rcases Nat.lt_or_ge i j with e | e
            · exact run i i1 e
            · have : i = j := by omega
              rw [this]
              exact le)
        · rw [ex] at nle
          exact bq_t rfl (k123 N f j _ H F e1 e2 e3 pf bl nb fj jn run (Or.inr nle))
      · refine z_mle (fun le => ?_) (fun nle => ?_)
        · have le : z_le (-1) := le
          unfold z_le at le
          omega
        · exact bq_t rfl (k123 N f j _ H F e1 e2 e3 pf bl nb fj jn run (Or.inl ej))
  -- digits
  have k239 : ∀ (N f j : Nat) (l1 : Option Value) (H : mq_H), z_fm h H → mq_I H 59 27 = nI f → mq_I H 59 26 = nI j → mq_I H 59 28 = 1 → p ≤ f → (∀ i, p ≤ i → i < f → z_bl (b i)) → ¬ z_bl (b f) → f < j → j ≤ n → (∀ i, f ≤ i → i < j → z_di (b i)) → (j = n ∨ ¬ z_di (b j)) → (j - f ≤ 4 → ((mq_I H 59 29).toInt = 0 ↔ ∀ i, f ≤ i → i < j → b i = 48)) → mq_Pn mq_G (mq_tT lL) N 162 239 [some (.retAddr 59), l1] [] H (fun v h2 => v = none ∧ ∃ t, z_LX b n p t ∧ z_MT h2 t ∧ z_fm h h2) := by
    intro N f j l1 H F e1 e2 e3 pf bl nb fj jn run en hv
    have e5 : (mq_I H 59 26 - mq_I H 59 27).toInt = (j : Int) - f := by
      rw [e1, e2, ci_sub (by rw [nI_toInt (by omega), nI_toInt (by omega)]; omega), nI_toInt (by omega), nI_toInt (by omega)]
    refine (mq_gl (n := N) 60 [] ?_).dn (by omega)
    refine bq_c (fun g => ?_) (fun g => ?_)
    · rw [le_i, e5] at g
      have g : (5 : Int) ≤ (j : Int) - f := g
      exact ⟨rfl, (1, false, f, j), ⟨pf, by show f ≤ n; omega, bl, Or.inr ⟨by show f < n; omega, nb, fj, jn, Or.inr (Or.inl ⟨run f (Nat.le_refl _) fj, run, en, Or.inr ⟨by show ¬ j - f ≤ 4; omega, rfl, rfl⟩⟩)⟩⟩, ⟨e1, e2, Or.inr (Or.inl ⟨e3, rfl⟩)⟩, F⟩
    · rw [le_i, e5] at g
      have g : ¬ (5 : Int) ≤ (j : Int) - f := g
      have hz := hv (by omega)
      refine ⟨rfl, (2, decide ((mq_I H 59 29).toInt = 0), f, j), ⟨pf, by show f ≤ n; omega, bl, Or.inr ⟨by show f < n; omega, nb, fj, jn, Or.inr (Or.inl ⟨run f (Nat.le_refl _) fj, run, en, Or.inl ⟨by show j - f ≤ 4; omega, rfl, ?_⟩⟩)⟩⟩, ⟨e1, e2, Or.inr (Or.inr (Or.inl ⟨rfl, rfl, ?_⟩))⟩, F.st (by omega)⟩
      · show decide ((mq_I H 59 29).toInt = 0) = true ↔ _
        rw [decide_eq_true_iff]
        exact hz
      · show (mq_I H 59 29).toInt = 0 ↔ decide ((mq_I H 59 29).toInt = 0) = true
        rw [decide_eq_true_iff]
  have l171 : ∀ (N f j : Nat) (l1 : Option Value) (H : mq_H), z_fm h H → mq_I H 59 27 = nI f → mq_I H 59 26 = nI j → mq_I H 59 28 = 1 → p ≤ f → (∀ i, p ≤ i → i < f → z_bl (b i)) → ¬ z_bl (b f) → f < j → j ≤ n → (∀ i, f ≤ i → i < j → z_di (b i)) → (j - f ≤ 4 → 0 ≤ (mq_I H 59 29).toInt ∧ (mq_I H 59 29).toInt < 10 ^ (j - f) ∧ ((mq_I H 59 29).toInt = 0 ↔ ∀ i, f ≤ i → i < j → b i = 48)) → mq_Pn mq_G (mq_tT lL) N 162 171 [some (.retAddr 59), l1] [] H (fun v h2 => v = none ∧ ∃ t, z_LX b n p t ∧ z_MT h2 t ∧ z_fm h h2) := by
    intro N
    induction N with
    | zero => intro f j l1 H _ _ _ _ _ _ _ _ _ _ _; exact mq_Pn.z
    | succ N ih =>
      intro f j l1 H F e1 e2 e3 pf bl nb fj jn run hv
      refine mq_gl 90 [171, 239] ?_
      refine z_raw (TM.fm F) e2 jn (fun hj x ex => ?_) (fun ej => ?_)
      · refine z_mdi (fun di => ?_) (fun ndi => ?_)
        · rw [ex] at di
          have di2 := di
          unfold z_di at di2
          refine bq_f (by decide) ?_
          have run2 : ∀ i, f ≤ i → i < j + 1 → z_di (b i) := fun i i1 i2 => by
            rcases Nat.lt_or_ge i j with e | e
            · exact run i i1 e
            · have : i = j := by omega
              rw [this]
              exact di
          have pw : j + 1 - f ≤ 4 → (10 : Int) ^ (j - f) ≤ 1000 ∧ (10 : Int) ^ (j + 1 - f) = 10 * 10 ^ (j - f) := fun q => by
            refine ⟨?_, by rw [show j + 1 - f = (j - f) + 1 by omega, Int.pow_succ, Int.mul_comm]⟩
            have : j - f = 1 ∨ j - f = 2 ∨ j - f = 3 := by omega
            rcases this with e | e | e <;> rw [e] <;> decide
          refine bq_c (fun g => ?_) (fun g => ?_)
          · have g : (10000 : Int32) ≤ mq_I H 59 29 := g
            rw [le_i] at g
            have g : (10000 : Int) ≤ (mq_I H 59 29).toInt := g
            exact ih f (j + 1) _ _ ((F.st (by omega)).st (by omega)) e1 (by show mq_I H 59 26 + 1 = _; rw [e2, nI_1]) e3 pf bl nb (by omega) (by omega) run2 (fun q => by
              exfalso
              have := hv (by omega)
              have := pw q
              omega)
          · have g : ¬ (10000 : Int32) ≤ mq_I H 59 29 := g
            refine z_raw (TM.fm F) e2 jn (fun _ x2 ex2 => ?_) (fun ej => by omega)
            refine ih f (j + 1) _ _ ((F.st (by omega)).st (by omega)) e1 (by show mq_I H 59 26 + 1 = _; rw [e2, nI_1]) e3 pf bl nb (by omega) (by omega) run2 (fun q => ?_)
            obtain ⟨v1, v2, v3⟩ := hv (by omega)
            obtain ⟨p1, p2⟩ := pw q
            have m1 : ((10 : Int32) * mq_I H 59 29).toInt = 10 * (mq_I H 59 29).toInt := ci_mul (x := 10) ⟨by show (-2147483648 : Int) ≤ 10 * (mq_I H 59 29).toInt; omega, by show (10 : Int) * (mq_I H 59 29).toInt ≤ _; omega⟩
            have m2 : ((10 : Int32) * mq_I H 59 29 + x2).toInt = 10 * (mq_I H 59 29).toInt + b j := by rw [ci_add (by rw [m1, ex2]; omega), m1, ex2]
            have m3 : ((10 : Int32) * mq_I H 59 29 + x2 - 48).toInt = 10 * (mq_I H 59 29).toInt + b j - 48 := by
              rw [ci_sub (y := 48) (by rw [m2]; exact ⟨by show (-2147483648 : Int) ≤ _ - 48; omega, by show _ - (48 : Int) ≤ _; omega⟩), m2]
              rfl
            show 0 ≤ ((10 : Int32) * mq_I H 59 29 + x2 - 48).toInt ∧ ((10 : Int32) * mq_I H 59 29 + x2 - 48).toInt < 10 ^ (j + 1 - f) ∧ (((10 : Int32) * mq_I H 59 29 + x2 - 48).toInt = 0 ↔ _)
            rw [m3, p2]
            refine ⟨by omega, by omega, fun z i i1 i2 => ?_, fun z => ?_⟩
            · rcases Nat.lt_or_ge i j with e | e
              · exact v3.mp (by omega) i i1 e
              · have : i = j := by omega
                rw [this]
                omega
            · have := z j (by omega) (by omega)
              have := v3.mpr (fun i i1 i2 => z i i1 (by omega))
              omega
        · rw [ex] at ndi
          exact bq_t rfl (k239 N f j _ H F e1 e2 e3 pf bl nb fj jn run (Or.inr ndi) (fun q => (hv q).2.2))
      · refine z_mdi (fun le => ?_) (fun nle => ?_)
        · have le : z_di (-1) := le
          unfold z_di at le
          omega
        · exact bq_t rfl (k239 N f j _ H F e1 e2 e3 pf bl nb fj jn run (Or.inl ej) (fun q => (hv q).2.2))
  have k87 : ∀ (N f : Nat) (x : Int32) (H : mq_H), z_fm h H → mq_I H 59 27 = nI f → mq_I H 59 26 = nI (f + 1) → mq_I H 59 28 = 1 → mq_I H 59 29 = x → x.toInt = b f → p ≤ f → f < n → (∀ i, p ≤ i → i < f → z_bl (b i)) → ¬ z_bl (b f) → mq_Pn mq_G (mq_tT lL) N 162 87 [some (.retAddr 59), some (.int x)] [] H (fun v h2 => v = none ∧ ∃ t, z_LX b n p t ∧ z_MT h2 t ∧ z_fm h h2) := by
    intro N f x H F e1 e2 e3 e4 ex pf fn bl nb
    refine (mq_gl (n := N) 60 [95, 171] ?_).dn (by omega)
    refine z_mle (fun le => ?_) (fun nle => ?_)
    · rw [ex] at le
      refine bq_f (by decide) ?_
      exact l95 N f (f + 1) _ H F e1 e2 e3 pf bl nb (by omega) (by omega) (fun i i1 i2 => by
        have : i = f := by omega
        rw [this]
        exact le)
    · rw [ex] at nle
      refine bq_t rfl ?_
      refine z_mdi (fun di => ?_) (fun ndi => ?_)
      · rw [ex] at di
        have di2 := di
        unfold z_di at di2
        refine bq_f (by decide) ?_
        have m3 : (x - 48).toInt = b f - 48 := by
          rw [ci_sub (y := 48) (by rw [ex]; exact ⟨by show (-2147483648 : Int) ≤ _ - 48; omega, by show _ - (48 : Int) ≤ _; omega⟩), ex]
          rfl
        refine l171 N f (f + 1) _ _ (F.st (by omega)) e1 e2 e3 pf bl nb (by omega) (by omega) (fun i i1 i2 => by
          have : i = f := by omega
          rw [this]
          exact di) (fun _ => ?_)
        show 0 ≤ (x - 48).toInt ∧ (x - 48).toInt < 10 ^ (f + 1 - f) ∧ ((x - 48).toInt = 0 ↔ _)
        rw [m3, show f + 1 - f = 1 by omega]
        refine ⟨by omega, by omega, fun z i i1 i2 => ?_, fun z => ?_⟩
        · have : i = f := by omega
          rw [this]
          omega
        · have := z f (Nat.le_refl _) (by omega)
          omega
      · rw [ex] at ndi
        refine bq_t rfl ?_
        refine z_msg (fun sg => ?_) (fun nsg => ?_)
        · rw [ex] at sg
          refine bq_f (by decide) ?_
          exact ⟨rfl, (b f, false, f, f + 1), ⟨pf, by show f ≤ n; omega, bl, Or.inr ⟨fn, nb, by show f < f + 1; omega, by show f + 1 ≤ n; omega, Or.inr (Or.inr ⟨nle, ndi, rfl, Or.inl ⟨sg, rfl⟩, rfl⟩)⟩⟩, ⟨e1, e2, Or.inr (Or.inr (Or.inr (Or.inl ⟨rfl, sg, by show (mq_I H 59 29).toInt = b f; rw [e4, ex]⟩)))⟩, F.st (by omega)⟩
        · rw [ex] at nsg
          refine bq_t rfl ?_
          exact ⟨rfl, (1, false, f, f + 1), ⟨pf, by show f ≤ n; omega, bl, Or.inr ⟨fn, nb, by show f < f + 1; omega, by show f + 1 ≤ n; omega, Or.inr (Or.inr ⟨nle, ndi, rfl, Or.inr ⟨nsg, rfl⟩, rfl⟩)⟩⟩, ⟨e1, e2, Or.inr (Or.inl ⟨e3, rfl⟩)⟩, F⟩
  have k39 : ∀ (N j : Nat) (H : mq_H), z_fm h H → mq_I H 59 26 = nI j → p ≤ j → j ≤ n → (∀ i, p ≤ i → i < j → z_bl (b i)) → (j = n ∨ ¬ z_bl (b j)) → mq_Pn mq_G (mq_tT lL) N 162 39 [some (.retAddr 59), none] [] H (fun v h2 => v = none ∧ ∃ t, z_LX b n p t ∧ z_MT h2 t ∧ z_fm h h2) := by
    intro N j H F e2 pj jn bl en
    have F2 : z_fm h (mq_setI (mq_setI H 59 27 (mq_I H 59 26)) 59 28 1) := (F.st (by omega)).st (by omega)
    refine (mq_gl (n := N) 60 [87] ?_).dn (by omega)
    refine z_raw (h := mq_setI (mq_setI H 59 27 (mq_I H 59 26)) 59 28 1) (TM.fm F2) e2 jn (fun hj x ex => ?_) (fun ej => ?_)
    · have tj := t3 j hj
      refine bn_t (fun z => ?_) ?_
      · have z := y_eq z (k := -1) rfl
        omega
      · exact k87 N j x _ ((F2.st (by omega)).st (by omega)) e2 (by show mq_I H 59 26 + 1 = _; rw [e2, nI_1]) rfl rfl ex pj hj bl (by
          rcases en with e | e
          · omega
          · exact e)
    · refine bn_f rfl ?_
      subst ej
      exact ⟨rfl, (0, false, j, j), ⟨pj, Nat.le_refl _, bl, Or.inl ⟨rfl, rfl, rfl, rfl⟩⟩, ⟨e2, e2, Or.inl ⟨rfl, rfl⟩⟩, F2.st (by omega)⟩
  have l0 : ∀ (N j : Nat) (H : mq_H), z_fm h H → mq_I H 59 26 = nI j → p ≤ j → j ≤ n → (∀ i, p ≤ i → i < j → z_bl (b i)) → mq_Pn mq_G (mq_tT lL) N 162 0 [some (.retAddr 59), none] [] H (fun v h2 => v = none ∧ ∃ t, z_LX b n p t ∧ z_MT h2 t ∧ z_fm h h2) := by
    intro N
    induction N with
    | zero => intro j H _ _ _ _ _; exact mq_Pn.z
    | succ N ih =>
      intro j H F e2 pj jn bl
      have nx : j < n → z_bl (b j) → mq_Pn mq_G (mq_tT lL) N 162 0 [some (.retAddr 59), none] [] (mq_setI H 59 26 (mq_I H 59 26 + 1)) (fun v h2 => v = none ∧ ∃ t, z_LX b n p t ∧ z_MT h2 t ∧ z_fm h h2) := fun hj e => ih (j + 1) _ (F.st (by omega)) (by show mq_I H 59 26 + 1 = _; rw [e2, nI_1]) (by omega) (by omega) (fun i i1 i2 => by
        rcases Nat.lt_or_ge i j with e3 | e3
        · exact bl i i1 e3
        · have : i = j := by omega
          rw [this]
          exact e)
      refine mq_gl 60 [0, 39] ?_
      refine z_raw (TM.fm F) e2 jn (fun hj x ex => ?_) (fun ej => ?_)
      · refine bq_c (fun e => ?_) (fun e => ?_)
        · have e := y_eq e (k := 32) rfl
          exact nx hj (Or.inl (by omega))
        · have e : ¬ x.toInt = 32 := y_ne e rfl
          refine z_raw (TM.fm F) e2 jn (fun _ x2 ex2 => ?_) (fun ej => by omega)
          refine bn_c (fun e3 => ?_) (fun e3 => ?_)
          · have e3 : ¬ x2.toInt = 10 := y_ne e3 rfl
            exact k39 N j H F e2 pj jn bl (Or.inr (fun z => by unfold z_bl at z; omega))
          · have e3 := y_eq e3 (k := 10) rfl
            exact nx hj (Or.inr (by omega))
      · refine bq_f (by decide) ?_
        refine z_raw (TM.fm F) e2 jn (fun hj x ex => by omega) (fun _ => ?_)
        refine bn_t (by decide) ?_
        exact k39 N j H F e2 pj jn bl (Or.inl ej)
  intro L hL
  have e : L = [some (.retAddr 59), none] := by
    have : mq_args mq_G 162 [.retAddr 59] = some [some (.retAddr 59), none] := rfl
    rw [this] at hL
    exact (Option.some.inj hL).symm
  rw [e]
  exact l0 N p h (z_fm.rf h) ep (Nat.le_refl _) hp (fun i i1 i2 => by omega)
end ZR
