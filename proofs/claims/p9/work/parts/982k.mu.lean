/-! the reference: quantities, sums, comparisons -/
section ZK
variable {lL : Nat} {h h1 h2 : mq_H} {Q : Option Value → mq_H → Prop} {b : Nat → Int} {n : Nat}
theorem z_pi_inj : ∀ r, r < 29 → ∀ s, s < 29 → z_pi r = z_pi s → r = s := by decide +kernel
theorem z_pi_24 : ∀ r, r < 29 → (24 ≤ r ↔ 24 ≤ z_pi r) ∧ z_pi r < 29 := by decide +kernel
def z_gu (h h2 : mq_H) : Prop := ∀ a k, ¬ a = 88 → ¬ a = 89 → ¬ (a = 59 ∧ (k = 26 ∨ k = 27 ∨ k = 28 ∨ k = 29 ∨ k = 39 ∨ k = 43 ∨ k = 44)) → mq_I h2 a k = mq_I h a k
theorem z_gu.rf (h : mq_H) : z_gu h h := fun _ _ _ _ _ => rfl
theorem z_gu.tr (a : z_gu h h1) (c : z_gu h1 h2) : z_gu h h2 := fun x k p q r => (c x k p q r).trans (a x k p q r)
theorem z_fm.gu (a : z_fm h h2) : z_gu h h2 := fun x k p q r => a.2 x k (fun z => r ⟨z.1, by omega⟩)
theorem z_TM.gu (F : z_gu h h1) (T : z_TM h b n) : z_TM h1 b n := ⟨(F _ _ (by decide) (by decide) (by omega)).trans T.1, T.2.1, fun i hi => by rw [F _ _ (by decide) (by decide) (by omega)]; exact T.2.2.1 i hi, fun k hk => (F _ _ (by decide) (by decide) (by omega)).trans (T.2.2.2 k hk)⟩
theorem z_MTw {t : z_T} (MT : z_MT h t) : (mq_I h 59 28 = 2 ∧ ∃ r, r < 29 ∧ mq_I h 59 29 = nI r ∧ t.1 = 256 + (z_pi r : Int)) ∨ (¬ mq_I h 59 28 = 2 ∧ t.1 < 256) := by
  obtain ⟨_, _, m⟩ := MT
  rcases m with ⟨e, k⟩ | ⟨e, k⟩ | ⟨e, k, _⟩ | ⟨e, k, _⟩ | ⟨e, k⟩
  · exact Or.inr ⟨by rw [e]; decide, by omega⟩
  · exact Or.inr ⟨by rw [e]; decide, by omega⟩
  · exact Or.inr ⟨by rw [e]; decide, by omega⟩
  · exact Or.inr ⟨by rw [e]; decide, by unfold z_sg at k; omega⟩
  · exact Or.inl ⟨e, k⟩
theorem z_MTn {t : z_T} (MT : z_MT h t) : (mq_I h 59 28 = 3 ∧ t.1 = 2 ∧ ((mq_I h 59 29).toInt = 0 ↔ t.2.1 = true)) ∨ (¬ mq_I h 59 28 = 3 ∧ ¬ t.1 = 2) := by
  obtain ⟨_, _, m⟩ := MT
  rcases m with ⟨e, k⟩ | ⟨e, k⟩ | ⟨e, k⟩ | ⟨e, k, _⟩ | ⟨e, r, _, _, k⟩
  · exact Or.inr ⟨by rw [e]; decide, by omega⟩
  · exact Or.inr ⟨by rw [e]; decide, by omega⟩
  · exact Or.inl ⟨e, k⟩
  · exact Or.inr ⟨by rw [e]; decide, by unfold z_sg at k; omega⟩
  · exact Or.inr ⟨by rw [e]; decide, by omega⟩
theorem z_MTe {t : z_T} (MT : z_MT h t) : (mq_I h 59 28 = 0 ∧ t.1 = 0) ∨ (¬ mq_I h 59 28 = 0 ∧ ¬ t.1 = 0) := by
  obtain ⟨_, _, m⟩ := MT
  rcases m with ⟨e, k⟩ | ⟨e, k⟩ | ⟨e, k, _⟩ | ⟨e, k, _⟩ | ⟨e, r, _, _, k⟩
  · exact Or.inl ⟨e, k⟩
  · exact Or.inr ⟨by rw [e]; decide, by omega⟩
  · exact Or.inr ⟨by rw [e]; decide, by omega⟩
  · exact Or.inr ⟨by rw [e]; decide, by unfold z_sg at k; omega⟩
  · exact Or.inr ⟨by rw [e]; decide, by omega⟩
theorem z_MTs {t : z_T} (MT : z_MT h t) : (mq_I h 59 28 = 4 ∧ z_sg t.1 ∧ (mq_I h 59 29).toInt = t.1) ∨ (¬ mq_I h 59 28 = 4 ∧ ¬ z_sg t.1) := by
  obtain ⟨_, _, m⟩ := MT
  rcases m with ⟨e, k⟩ | ⟨e, k⟩ | ⟨e, k, _⟩ | ⟨e, k⟩ | ⟨e, r, _, _, k⟩
  · exact Or.inr ⟨by rw [e]; decide, by unfold z_sg; omega⟩
  · exact Or.inr ⟨by rw [e]; decide, by unfold z_sg; omega⟩
  · exact Or.inr ⟨by rw [e]; decide, by unfold z_sg; omega⟩
  · exact Or.inl ⟨e, k⟩
  · exact Or.inr ⟨by rw [e]; decide, by unfold z_sg; omega⟩
theorem z_isS {t : z_T} (MT : z_MT h t) {c : Int32} {k : Int} (hk : c.toInt = k) (sg : z_sg k) {N : Nat} (h1 : t.1 = k → Q (some (.int 1)) h) (h0 : ¬ t.1 = k → Q (some (.int 0)) h) : mq_PC mq_G (mq_tT lL) N 165 [.retAddr 59, .int c] h Q := by
  refine mq_Call.pc ?_ N
  apply mq_enter 40 []
  rcases z_MTs MT with ⟨e, e2, e3⟩ | ⟨e, e2⟩
  · refine bn_f e ?_
    refine bn_c (fun ne => ?_) (fun eq => ?_)
    · exact gq_i rfl (h0 (fun z => ne (x_toI (e3.trans z) hk)))
    · refine gq_i rfl (h1 ?_)
      have eq : mq_I h 59 29 = c := eq
      rw [← e3, eq, hk]
  · refine bn_t e ?_
    exact gq_i rfl (h0 (fun z => e2 (by rw [z]; exact sg)))
theorem z_isW {t : z_T} (MT : z_MT h t) {w : Nat} (hw : w < 29) {c : Int32} (ec : c = nI w) {N : Nat} (h1 : t.1 = 256 + (z_pi w : Int) → Q (some (.int 1)) h) (h0 : ¬ t.1 = 256 + (z_pi w : Int) → Q (some (.int 0)) h) : mq_PC mq_G (mq_tT lL) N 164 [.retAddr 59, .int c] h Q := by
  subst ec
  refine mq_Call.pc ?_ N
  apply mq_enter 40 []
  rcases z_MTw MT with ⟨e, r, hr, e2, e3⟩ | ⟨e, e2⟩
  · refine bn_f e ?_
    refine bn_c (fun ne => ?_) (fun eq => ?_)
    · have ne : ¬ mq_I h 59 29 = nI w := ne
      refine gq_i rfl (h0 (fun z => ne ?_))
      have : z_pi r = z_pi w := by omega
      rw [e2, z_pi_inj r hr w hw this]
    · have eq : mq_I h 59 29 = nI w := eq
      rw [e2, nI_eq (by omega) (by omega)] at eq
      exact gq_i rfl (h1 (by rw [e3, eq]))
  · refine bn_t e ?_
    exact gq_i rfl (h0 (by omega))
theorem z_errs {e : Int32} {N : Nat} (h1 : Q (some (.int (-1))) (mq_setI (mq_setI h 59 43 e) 59 44 (mq_I h 59 27))) : mq_PC mq_G (mq_tT lL) N 163 [.retAddr 59, .int e] h Q := by
  refine mq_Call.pc ?_ N
  apply mq_enter 40 []
  exact h1
theorem z_gu.er (F : z_gu h h1) {e x : Int32} : z_gu h (mq_setI (mq_setI h1 59 43 e) 59 44 x) := fun a k p q r => (ck_setI_at (fun w => r ⟨w.1, by omega⟩)).trans ((ck_setI_at (fun w => r ⟨w.1, by omega⟩)).trans (F a k p q r))
theorem z_emits {x y : Int32} (N : Nat) : mq_PC mq_G (mq_tT lL) N 166 [.retAddr 59, .int x, .int y] h (fun v h2 => v = none ∧ ∀ a k, ¬ a = 88 → ¬ a = 89 → ¬ (a = 59 ∧ k = 39) → mq_I h2 a k = mq_I h a k) := by
  revert N
  refine mq_el_in 60 [] (fun N => ?_)
  intro _ _
  exact ⟨rfl, fun a k p q r => (ck_setI_at r).trans ((ck_setI_at (fun w => q w.1)).trans (ck_setI_at (fun w => p w.1)))⟩
theorem z_MT.em {t : z_T} (MT : z_MT h t) (f : ∀ a k, ¬ a = 88 → ¬ a = 89 → ¬ (a = 59 ∧ k = 39) → mq_I h2 a k = mq_I h a k) : z_MT h2 t := by
  obtain ⟨m1, m2, m3⟩ := MT
  have e1 := f 59 28 (by decide) (by decide) (by omega)
  have e2 := f 59 29 (by decide) (by decide) (by omega)
  exact ⟨(f _ _ (by decide) (by decide) (by omega)).trans m1, (f _ _ (by decide) (by decide) (by omega)).trans m2, by rw [e1, e2]; exact m3⟩
theorem z_gu_em (f : ∀ a k, ¬ a = 88 → ¬ a = 89 → ¬ (a = 59 ∧ k = 39) → mq_I h2 a k = mq_I h a k) : z_gu h h2 := fun a k p q r => f a k p q (fun z => r ⟨z.1, by omega⟩)
/-- reads, wherever the text is -/
theorem z_rdS (TM : z_TM h b n) {t : z_T} (MT : z_MT h t) (tk : z_tk n t) (N : Nat) : mq_PC mq_G (mq_tT lL) N 162 [.retAddr 59] h (fun v h2 => v = none ∧ ∃ t', z_LX b n t.2.2.2 t' ∧ z_MT h2 t' ∧ z_tk n t' ∧ z_gu h h2) := mq_PC.mono (z_rds TM tk.2.1 MT.2.1 N) (fun v h2 ⟨ev, t', lx, MT', F⟩ => ⟨ev, t', lx, MT', (z_LX_tk lx).1, F.gu⟩)
theorem z_unit (TM : z_TM h b n) {t : z_T} (MT : z_MT h t) (tk : z_tk n t) (N : Nat) : mq_PC mq_G (mq_tT lL) N 167 [.retAddr 59] h (fun v h2 => (v = some (.int (-1)) ∧ ¬ (t.1 = 2 ∨ (280 ≤ t.1 ∧ t.1 ≤ 284)) ∧ h2 = mq_setI (mq_setI h 59 43 1) 59 44 (mq_I h 59 27)) ∨ (v = some (.int 0) ∧ (t.1 = 2 ∨ (280 ≤ t.1 ∧ t.1 ≤ 284)) ∧ ∃ t', z_LX b n t.2.2.2 t' ∧ z_MT h2 t' ∧ z_tk n t' ∧ z_gu h h2)) := by
  revert N
  refine mq_el_in 90 [23, 41] (fun N => ?_)
  have k41 : ∀ y : Int32, (t.1 = 2 ∨ (280 ≤ t.1 ∧ t.1 ≤ 284)) → mq_Pn mq_G (mq_tT lL) N 167 41 [some (.retAddr 59), some (.int y)] [] h (fun v h2 => (v = some (.int (-1)) ∧ ¬ (t.1 = 2 ∨ (280 ≤ t.1 ∧ t.1 ≤ 284)) ∧ h2 = mq_setI (mq_setI h 59 43 1) 59 44 (mq_I h 59 27)) ∨ (v = some (.int 0) ∧ (t.1 = 2 ∨ (280 ≤ t.1 ∧ t.1 ≤ 284)) ∧ ∃ t', z_LX b n t.2.2.2 t' ∧ z_MT h2 t' ∧ z_tk n t' ∧ z_gu h h2)) := by
    intro y ok
    have fin : ∀ (x z : Int32), mq_PC mq_G (mq_tT lL) N 166 [.retAddr 59, .int x, .int z] h (fun v h2 => v = none ∧ mq_PC mq_G (mq_tT lL) N 162 [.retAddr 59] h2 (fun v h2 => v = none ∧ ∃ t', z_LX b n t.2.2.2 t' ∧ z_MT h2 t' ∧ z_tk n t' ∧ z_gu h h2)) := fun x z => mq_PC.mono (z_emits N) (fun v h2 ⟨ev, f⟩ => ⟨ev, mq_PC.mono (z_rdS (TM.gu (z_gu_em f)) (MT.em f) tk N) (fun v h3 ⟨ev, t', lx, m, k, F⟩ => ⟨ev, t', lx, m, k, (z_gu_em f).tr F⟩)⟩)
    have go : ∀ (x z : Int32) (R : Option Value → mq_H → Prop), (∀ h2, mq_PC mq_G (mq_tT lL) N 162 [.retAddr 59] h2 (fun v h2 => v = none ∧ ∃ t', z_LX b n t.2.2.2 t' ∧ z_MT h2 t' ∧ z_tk n t' ∧ z_gu h h2) → R none h2) → mq_PC mq_G (mq_tT lL) N 166 [.retAddr 59, .int x, .int z] h R := fun x z R hR => mq_PC.mono (fin x z) (fun v h2 ⟨ev, f⟩ => by subst ev; exact hR h2 f)
    refine (mq_gl (n := N) 60 [] ?_).dn (by omega)
    refine bq_c (fun e => ?_) (fun e => ?_)
    · refine bq_t e ?_
      refine go _ _ _ (fun h2 q => mq_PC.mono q (fun v h3 ⟨ev, f⟩ => ?_))
      subst ev
      exact Or.inr ⟨rfl, ok, f⟩
    · refine bq_f e ?_
      refine go _ _ _ (fun h2 q => mq_PC.mono q (fun v h3 ⟨ev, f⟩ => ?_))
      subst ev
      exact Or.inr ⟨rfl, ok, f⟩
  have k23 : ∀ y : Int32, (y = 1 → 280 ≤ t.1 ∧ t.1 ≤ 284) → (y = 0 → t.1 < 280) → (y = 0 ∨ y = 1) → mq_Pn mq_G (mq_tT lL) N 167 23 [some (.retAddr 59), some (.int y)] [] h (fun v h2 => (v = some (.int (-1)) ∧ ¬ (t.1 = 2 ∨ (280 ≤ t.1 ∧ t.1 ≤ 284)) ∧ h2 = mq_setI (mq_setI h 59 43 1) 59 44 (mq_I h 59 27)) ∨ (v = some (.int 0) ∧ (t.1 = 2 ∨ (280 ≤ t.1 ∧ t.1 ≤ 284)) ∧ ∃ t', z_LX b n t.2.2.2 t' ∧ z_MT h2 t' ∧ z_tk n t' ∧ z_gu h h2)) := by
    intro y h1 h0 h01
    refine (mq_gl (n := N) 60 [41] ?_).dn (by omega)
    rcases h01 with rfl | rfl
    · refine bn_f rfl ?_
      have := h0 rfl
      rcases z_MTn MT with ⟨e, e2, _⟩ | ⟨e, e2⟩
      · refine bq_t e ?_
        exact k41 0 (Or.inl e2)
      · refine bq_f e ?_
        exact z_errs (Or.inl ⟨rfl, by omega, rfl⟩)
    · refine bn_t (by decide) ?_
      exact k41 1 (Or.inr (h1 rfl))
  rcases z_MTw MT with ⟨e, r, hr, e2, e3⟩ | ⟨e, e2⟩
  · have p := z_pi_24 r hr
    refine bn_f e ?_
    refine bq_c (fun g => ?_) (fun g => ?_)
    · have g : mq_I h 59 29 < 24 := g
      rw [e2, lt_i, nI_toInt (by omega)] at g
      have g : (r : Int) < 24 := g
      exact k23 0 (fun z => absurd z (by decide)) (fun _ => by omega) (Or.inl rfl)
    · have g : ¬ mq_I h 59 29 < 24 := g
      rw [e2, lt_i, nI_toInt (by omega)] at g
      have g : ¬ (r : Int) < 24 := g
      exact k23 1 (fun _ => by omega) (fun z => absurd z (by decide)) (Or.inr rfl)
  · refine bn_t e ?_
    exact k23 0 (fun z => absurd z (by decide)) (fun _ => by omega) (Or.inl rfl)
/-- where a quantity ends, or a fault -/
def z_PU (b : Nat → Int) (n : Nat) (h : mq_H) (s : z_S) (t : z_T) (s2 : z_S) (C : Int → Prop) (v : Option Value) (h2 : mq_H) : Prop := z_gu h h2 ∧ ((v = some (.int (-1)) ∧ ∃ e f, mq_I h2 59 43 = nI e ∧ ¬ e = 0 ∧ e < 10 ∧ mq_I h2 59 44 = nI f ∧ z_AR b n s t (.inl (e, f))) ∨ (v = some (.int 0) ∧ ∃ t', z_MT h2 t' ∧ z_tk n t' ∧ C t'.1 ∧ z_K b n s t s2 t'))
theorem z_PU.k {s s1 s2 : z_S} {t t1 : z_T} {C : Int → Prop} {v : Option Value} (F : z_gu h h1) (K : z_K b n s t s1 t1) (P : z_PU b n h1 s1 t1 s2 C v h2) : z_PU b n h s t s2 C v h2 := by
  obtain ⟨F2, P⟩ := P
  rcases P with ⟨ev, e, f, p1, p2, p3, p4, p5⟩ | ⟨ev, t', p1, p2, p3, p4⟩
  · exact ⟨F.tr F2, Or.inl ⟨ev, e, f, p1, p2, p3, p4, K _ p5⟩⟩
  · exact ⟨F.tr F2, Or.inr ⟨ev, t', p1, p2, p3, K.tr p4⟩⟩
theorem z_PU.er {s s2 : z_S} {t t1 : z_T} {C : Int → Prop} {e : Nat} (F : z_gu h h1) (MT : z_MT h1 t1) (e0 : ¬ e = 0) (e1 : e < 10) (A : z_AR b n s t (.inl (e, t1.2.2.1))) : z_PU b n h s t s2 C (some (.int (-1))) (mq_setI (mq_setI h1 59 43 (nI e)) 59 44 (mq_I h1 59 27)) := ⟨F.er, Or.inl ⟨rfl, e, t1.2.2.1, rfl, e0, e1, MT.1, A⟩⟩
theorem z_prod (TM : z_TM h b n) {t : z_T} (MT : z_MT h t) (tk : z_tk n t) {r : Bool} {S : List Bool} {c : Nat} (N : Nat) : mq_PC mq_G (mq_tT lL) N 168 [.retAddr 59] h (z_PU b n h (1, r, S, c) t (bif r then 4 else 3, r, S, c) (fun k => ¬ (k = 42 ∨ k = 47))) := by
  have sM : ∀ (k : Int) (z : Bool), (k = 42 ∨ k = 47 ∨ k = 43 ∨ k = 45) → z_st (bif r then 4 else 3, r, S, c) k z = .inr (.inr (.inl (if k = 47 then 2 else 1, r, S, c))) := fun k z hk => by
    cases r with
    | true => exact z_s4a hk
    | false => exact z_s3a hk
  have lp : ∀ (N : Nat) (l1 : Option Value) (t1 : z_T) (h1 : mq_H), z_gu h h1 → z_MT h1 t1 → z_tk n t1 → z_K b n (1, r, S, c) t (bif r then 4 else 3, r, S, c) t1 → mq_Pn mq_G (mq_tT lL) N 168 10 [some (.retAddr 59), l1] [] h1 (z_PU b n h (1, r, S, c) t (bif r then 4 else 3, r, S, c) (fun k => ¬ (k = 42 ∨ k = 47))) := by
    intro N
    induction N with
    | zero => intro l1 t1 h1 _ _ _ _; exact mq_Pn.z
    | succ N ih =>
      intro l1 t1 h1 F MT1 tk1 K
      -- behind the sign
      have k74 : ∀ (y : Int32) (t2 : z_T) (h2 : mq_H), z_gu h h2 → z_MT h2 t2 → z_tk n t2 → (y = 0 → t2.1 = 2 ∧ t2.2.1 = false ∧ z_K b n (1, r, S, c) t (2, r, S, c) t2) → (¬ y = 0 → z_K b n (1, r, S, c) t (1, r, S, c) t2) → mq_Pn mq_G (mq_tT lL) N 168 74 [some (.retAddr 59), some (.int y)] [] h2 (z_PU b n h (1, r, S, c) t (bif r then 4 else 3, r, S, c) (fun k => ¬ (k = 42 ∨ k = 47))) := by
        intro y t2 h2 F2 MT2 tk2 H0 H1
        refine (mq_gl (n := N) 60 [10] ?_).dn (by omega)
        refine mq_PC.mono (z_unit (TM.gu F2) MT2 tk2 N) (fun v h3 hv => ?_)
        rcases hv with ⟨ev, nk, eh⟩ | ⟨ev, ok, t3, lx, MT3, tk3, F3⟩
        · subst ev eh
          refine bn_f rfl ?_
          by_cases y0 : y = 0
          · exact absurd (Or.inl (H0 y0).1) nk
          · have E := z_PU.er (s2 := (bif r then 4 else 3, r, S, c)) (C := fun k => ¬ (k = 42 ∨ k = 47)) F2 MT2 (e := 1) (by decide) (by decide) (H1 y0 _ (z_ft (z_s1f nk)))
            exact E
        · subst ev
          refine bn_t (by decide) ?_
          have K3 : z_K b n (1, r, S, c) t (bif r then 4 else 3, r, S, c) t3 := by
            by_cases y0 : y = 0
            · obtain ⟨a1, a2, a3⟩ := H0 y0
              exact a3.tr (z_nx (z_s2o a1 a2) lx)
            · exact (H1 y0).tr (z_nx (z_s1o ok) lx)
          have em : ∀ (x : Int32) (R : Option Value → mq_H → Prop), (∀ h4, z_gu h h4 → z_MT h4 t3 → R none h4) → mq_PC mq_G (mq_tT lL) N 166 [.retAddr 59, .int x, .int 0] h3 R := fun x R hR => mq_PC.mono (z_emits N) (fun v h4 ⟨ev, f⟩ => by
            subst ev
            exact hR h4 ((F2.tr F3).tr (z_gu_em f)) (MT3.em f))
          refine bq_c (fun _ => ?_) (fun _ => ?_)
          · exact em _ _ (fun h4 F4 MT4 => ih _ t3 h4 F4 MT4 tk3 K3)
          · exact em _ _ (fun h4 F4 MT4 => ih _ t3 h4 F4 MT4 tk3 K3)
      have k28 : (t1.1 = 42 ∨ t1.1 = 47) → mq_Pn mq_G (mq_tT lL) N 168 28 [some (.retAddr 59), l1] [] h1 (z_PU b n h (1, r, S, c) t (bif r then 4 else 3, r, S, c) (fun k => ¬ (k = 42 ∨ k = 47))) := by
        intro hk
        refine (mq_gl (n := N) 90 [74] ?_).dn (by omega)
        refine z_isS MT1 (k := 42) rfl (by unfold z_sg; omega) (fun e => ?_) (fun e => ?_)
        · refine mq_PC.mono (z_rdS (TM.gu F) MT1 tk1 N) (fun v h2 ⟨ev, t2, lx, MT2, tk2, F2⟩ => ?_)
          subst ev
          refine bn_t (by decide) ?_
          refine bn_t (by decide) ?_
          refine k74 1 t2 h2 (F.tr F2) MT2 tk2 (fun z => absurd z (by decide)) (fun _ => K.tr (z_nx ?_ lx))
          rw [sM _ _ (Or.inl e), if_neg (by omega)]
        · have e7 : t1.1 = 47 := by omega
          refine mq_PC.mono (z_rdS (TM.gu F) MT1 tk1 N) (fun v h2 ⟨ev, t2, lx, MT2, tk2, F2⟩ => ?_)
          subst ev
          have K2 : z_K b n (1, r, S, c) t (2, r, S, c) t2 := K.tr (z_nx (by rw [sM _ _ (Or.inr (Or.inl e7)), if_pos e7]) lx)
          refine bn_f rfl ?_
          rcases z_MTn MT2 with ⟨a1, a2, a3⟩ | ⟨a1, a2⟩
          · refine bq_t a1 ?_
            refine bn_f rfl ?_
            refine bn_c (fun n0 => ?_) (fun n0 => ?_)
            · have n0 : ¬ (mq_I h2 59 29).toInt = 0 := y_ne n0 rfl
              refine k74 0 t2 h2 (F.tr F2) MT2 tk2 (fun _ => ⟨a2, ?_, K2⟩) (fun z => absurd rfl z)
              cases ez : t2.2.1 with
              | false => rfl
              | true => exact absurd (a3.mpr ez) n0
            · have n0 : (mq_I h2 59 29).toInt = 0 := y_eq n0 rfl
              have E := z_PU.er (s2 := (bif r then 4 else 3, r, S, c)) (C := fun k => ¬ (k = 42 ∨ k = 47)) (F.tr F2) MT2 (e := 2) (by decide) (by decide) (K2 _ (z_ft (z_s2z a2 (a3.mp n0))))
              exact z_errs E
          · refine bq_f a1 ?_
            have E := z_PU.er (s2 := (bif r then 4 else 3, r, S, c)) (C := fun k => ¬ (k = 42 ∨ k = 47)) (F.tr F2) MT2 (e := 1) (by decide) (by decide) (K2 _ (z_ft (z_s2f a2)))
            exact z_errs E
      refine mq_gl 60 [28] ?_
      refine z_isS MT1 (k := 42) rfl (by unfold z_sg; omega) (fun e => ?_) (fun e => ?_)
      · refine bn_t (by decide) ?_
        exact k28 (Or.inl e)
      · refine bn_f rfl ?_
        refine z_isS MT1 (k := 47) rfl (by unfold z_sg; omega) (fun e2 => ?_) (fun e2 => ?_)
        · refine bq_f (by decide) ?_
          exact k28 (Or.inr e2)
        · refine bq_t rfl ?_
          exact ⟨F, Or.inr ⟨rfl, t1, MT1, tk1, by omega, K⟩⟩
  revert N
  refine mq_el_in 60 [10] (fun N => ?_)
  refine mq_PC.mono (z_unit TM MT tk N) (fun v h3 hv => ?_)
  rcases hv with ⟨ev, nk, eh⟩ | ⟨ev, ok, t3, lx, MT3, tk3, F3⟩
  · subst ev eh
    refine bn_f rfl ?_
    have E := z_PU.er (b := b) (n := n) (s := (1, r, S, c)) (s2 := (bif r then 4 else 3, r, S, c)) (C := fun k => ¬ (k = 42 ∨ k = 47)) (z_gu.rf h) MT (e := 1) (by decide) (by decide) (z_ft (z_s1f nk))
    exact E
  · subst ev
    refine bn_t (by decide) ?_
    exact lp N _ t3 h3 F3 MT3 tk3 (z_nx (z_s1o ok) lx)
theorem z_sum (TM : z_TM h b n) {t : z_T} (MT : z_MT h t) (tk : z_tk n t) {r : Bool} {S : List Bool} {c : Nat} (N : Nat) : mq_PC mq_G (mq_tT lL) N 169 [.retAddr 59] h (z_PU b n h (1, r, S, c) t (bif r then 4 else 3, r, S, c) (fun k => ¬ (k = 42 ∨ k = 47 ∨ k = 43 ∨ k = 45))) := by
  have sM : ∀ (k : Int) (z : Bool), (k = 42 ∨ k = 47 ∨ k = 43 ∨ k = 45) → z_st (bif r then 4 else 3, r, S, c) k z = .inr (.inr (.inl (if k = 47 then 2 else 1, r, S, c))) := fun k z hk => by
    cases r with
    | true => exact z_s4a hk
    | false => exact z_s3a hk
  have lp : ∀ (N : Nat) (l1 : Option Value) (t1 : z_T) (h1 : mq_H), z_gu h h1 → z_MT h1 t1 → z_tk n t1 → ¬ (t1.1 = 42 ∨ t1.1 = 47) → z_K b n (1, r, S, c) t (bif r then 4 else 3, r, S, c) t1 → mq_Pn mq_G (mq_tT lL) N 169 10 [some (.retAddr 59), l1] [] h1 (z_PU b n h (1, r, S, c) t (bif r then 4 else 3, r, S, c) (fun k => ¬ (k = 42 ∨ k = 47 ∨ k = 43 ∨ k = 45))) := by
    intro N
    induction N with
    | zero => intro l1 t1 h1 _ _ _ _ _; exact mq_Pn.z
    | succ N ih =>
      intro l1 t1 h1 F MT1 tk1 nc K
      have k42 : ∀ y : Int32, (t1.1 = 43 ∨ t1.1 = 45) → mq_Pn mq_G (mq_tT lL) N 169 42 [some (.retAddr 59), l1] [.int y] h1 (z_PU b n h (1, r, S, c) t (bif r then 4 else 3, r, S, c) (fun k => ¬ (k = 42 ∨ k = 47 ∨ k = 43 ∨ k = 45))) := by
        intro y hk
        refine (mq_gl (n := N) 60 [10] ?_).dn (by omega)
        refine mq_PC.mono (z_rdS (TM.gu F) MT1 tk1 N) (fun v h2 ⟨ev, t2, lx, MT2, tk2, F2⟩ => ?_)
        subst ev
        have K2 : z_K b n (1, r, S, c) t (1, r, S, c) t2 := K.tr (z_nx (by rw [sM _ _ (Or.inr (Or.inr hk)), if_neg (by omega)]) lx)
        refine mq_PC.mono (z_prod (TM.gu (F.tr F2)) MT2 tk2 (r := r) (S := S) (c := c) N) (fun v h3 ⟨F3, hv⟩ => ?_)
        rcases hv with ⟨ev, e, f, p1, p2, p3, p4, p5⟩ | ⟨ev, t3, p1, p2, p3, p4⟩
        · subst ev
          refine bn_f rfl ?_
          exact ⟨(F.tr F2).tr F3, Or.inl ⟨rfl, e, f, p1, p2, p3, p4, K2 _ p5⟩⟩
        · subst ev
          refine bn_t (by decide) ?_
          refine mq_PC.mono (z_emits N) (fun v h4 ⟨ev, f⟩ => ?_)
          subst ev
          exact ih _ t3 h4 (((F.tr F2).tr F3).tr (z_gu_em f)) (p1.em f) p2 p3 (K2.tr p4)
      have k28 : (t1.1 = 43 ∨ t1.1 = 45) → mq_Pn mq_G (mq_tT lL) N 169 28 [some (.retAddr 59), l1] [] h1 (z_PU b n h (1, r, S, c) t (bif r then 4 else 3, r, S, c) (fun k => ¬ (k = 42 ∨ k = 47 ∨ k = 43 ∨ k = 45))) := by
        intro hk
        refine (mq_gl (n := N) 60 [42] ?_).dn (by omega)
        exact bn_c (fun _ => k42 3 hk) (fun _ => k42 2 hk)
      refine mq_gl 60 [28] ?_
      refine z_isS MT1 (k := 43) rfl (by unfold z_sg; omega) (fun e => ?_) (fun e => ?_)
      · refine bn_t (by decide) ?_
        exact k28 (Or.inl e)
      · refine bn_f rfl ?_
        refine z_isS MT1 (k := 45) rfl (by unfold z_sg; omega) (fun e2 => ?_) (fun e2 => ?_)
        · refine bq_f (by decide) ?_
          exact k28 (Or.inr e2)
        · refine bq_t rfl ?_
          exact ⟨F, Or.inr ⟨rfl, t1, MT1, tk1, by omega, K⟩⟩
  revert N
  refine mq_el_in 60 [10] (fun N => ?_)
  refine mq_PC.mono (z_prod TM MT tk (r := r) (S := S) (c := c) N) (fun v h3 ⟨F3, hv⟩ => ?_)
  rcases hv with ⟨ev, e, f, p⟩ | ⟨ev, t3, p1, p2, p3, p4⟩
  · subst ev
    refine bn_f rfl ?_
    exact ⟨F3, Or.inl ⟨rfl, e, f, p⟩⟩
  · subst ev
    refine bn_t (by decide) ?_
    exact lp N _ t3 h3 F3 p1 p2 p3 p4
theorem z_comp (TM : z_TM h b n) {t : z_T} (MT : z_MT h t) (tk : z_tk n t) {S : List Bool} {c : Nat} (N : Nat) : mq_PC mq_G (mq_tT lL) N 170 [.retAddr 59] h (z_PU b n h (1, false, S, c) t (4, true, S, c) (fun k => ¬ (k = 42 ∨ k = 47 ∨ k = 43 ∨ k = 45))) := by
  revert N
  refine mq_el_in 60 [43] (fun N => ?_)
  refine mq_PC.mono (z_sum TM MT tk (r := false) (S := S) (c := c) N) (fun v h1 ⟨F, hv⟩ => ?_)
  rcases hv with ⟨ev, e, f, p⟩ | ⟨ev, t1, MT1, tk1, nc, K⟩
  · subst ev
    refine bn_f rfl ?_
    exact ⟨F, Or.inl ⟨rfl, e, f, p⟩⟩
  · subst ev
    refine bn_t (by decide) ?_
    have K : z_K b n (1, false, S, c) t (3, false, S, c) t1 := K
    have k73 : ∀ y : Int32, (t1.1 = 60 ∨ t1.1 = 61 ∨ t1.1 = 62) → mq_Pn mq_G (mq_tT lL) N 170 73 [some (.retAddr 59), none] [.int y] h1 (z_PU b n h (1, false, S, c) t (4, true, S, c) (fun k => ¬ (k = 42 ∨ k = 47 ∨ k = 43 ∨ k = 45))) := by
      intro y hk
      refine (mq_gl (n := N) 60 [] ?_).dn (by omega)
      refine mq_PC.mono (z_rdS (TM.gu F) MT1 tk1 N) (fun v h2 ⟨ev, t2, lx, MT2, tk2, F2⟩ => ?_)
      subst ev
      have K2 : z_K b n (1, false, S, c) t (1, true, S, c) t2 := K.tr (z_nx (z_s3c hk) lx)
      refine mq_PC.mono (z_sum (TM.gu (F.tr F2)) MT2 tk2 (r := true) (S := S) (c := c) N) (fun v h3 ⟨F3, hv⟩ => ?_)
      rcases hv with ⟨ev, e, f, p1, p2, p3, p4, p5⟩ | ⟨ev, t3, p1, p2, p3, p4⟩
      · subst ev
        refine bn_f rfl ?_
        exact ⟨(F.tr F2).tr F3, Or.inl ⟨rfl, e, f, p1, p2, p3, p4, K2 _ p5⟩⟩
      · subst ev
        refine bn_t (by decide) ?_
        refine mq_PC.mono (z_emits N) (fun v h4 ⟨ev, f⟩ => ?_)
        subst ev
        exact ⟨((F.tr F2).tr F3).tr (z_gu_em f), Or.inr ⟨rfl, t3, p1.em f, p2, p3, K2.tr p4⟩⟩
    have k43 : (t1.1 = 60 ∨ t1.1 = 61 ∨ t1.1 = 62) → mq_Pn mq_G (mq_tT lL) N 170 43 [some (.retAddr 59), none] [] h1 (z_PU b n h (1, false, S, c) t (4, true, S, c) (fun k => ¬ (k = 42 ∨ k = 47 ∨ k = 43 ∨ k = 45))) := by
      intro hk
      refine (mq_gl (n := N) 60 [73] ?_).dn (by omega)
      refine bn_c (fun _ => ?_) (fun _ => k73 6 hk)
      exact bn_c (fun _ => k73 8 hk) (fun _ => k73 7 hk)
    refine z_isS MT1 (k := 60) rfl (by unfold z_sg; omega) (fun e => ?_) (fun e => ?_)
    · exact bn_t (by decide) (k43 (Or.inl e))
    · refine bn_f rfl ?_
      refine z_isS MT1 (k := 61) rfl (by unfold z_sg; omega) (fun e2 => ?_) (fun e2 => ?_)
      · exact bn_t (by decide) (k43 (Or.inr (Or.inl e2)))
      · refine bn_f rfl ?_
        refine z_isS MT1 (k := 62) rfl (by unfold z_sg; omega) (fun e3 => ?_) (fun e3 => ?_)
        · exact bn_t (by decide) (k43 (Or.inr (Or.inr e3)))
        · refine bn_f rfl ?_
          have E := z_PU.er (s2 := (4, true, S, c)) (C := fun k => ¬ (k = 42 ∨ k = 47 ∨ k = 43 ∨ k = 45)) F MT1 (e := 1) (by decide) (by decide) (K _ (z_ft (z_s3f nc (by omega))))
          exact z_errs E
end ZK
