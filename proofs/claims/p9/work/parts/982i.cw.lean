/-! the class: lines, and a text -/
section ZI
variable {lL : Nat} {h h1 h2 : mq_H} {Q : Option Value → mq_H → Prop} {b : Nat → Int} {n : Nat}
/-- the places below 100 as they were -/
def z_b (h h2 : mq_H) : Prop := (∀ a, a < 100 → mq_I h2 a = mq_I h a) ∧ mq_N h ≤ mq_N h2
theorem z_copy {x : Int32} (hN : 100 ≤ mq_N h) (N : Nat) : mq_PC mq_G (mq_tT lL) N 231 [.retAddr 38, .int x] h (fun v h2 => v = some (.ref (mq_N h)) ∧ z_b h h2) := by
  revert N
  refine mq_el_in 40 [] (fun N => ?_)
  intro _
  refine bn_c (fun _ => ?_) (fun _ => ?_)
  · intro _ _ _
    have E : mq_mod 0 0 1 x.toNatClampNeg h (mq_cpI (mq_new h (.inr (0, x.toNatClampNeg)) x.toNatClampNeg) 38 (mq_N h) 0 0 (if x < nI 400 then x else nI 400).toNatClampNeg) := (mq_mod.nw (mq_mod.rf 0 0 h) _ (by omega) (by omega)).cI (Or.inr (Nat.le_refl _)) _ _ _ _
    exact ⟨rfl, fun a ha => (E.2.2.2.2 a (by omega) (by omega)).2.1, E.1⟩
  · intro _
    have E : mq_mod 0 0 1 400 h (mq_cpI (mq_new h (.inr (0, 400)) 400) 38 (mq_N h) 0 0 400) := (mq_mod.nw (mq_mod.rf 0 0 h) _ (by omega) (by omega)).cI (Or.inr (Nat.le_refl _)) _ _ _ _
    exact ⟨rfl, fun a ha => (E.2.2.2.2 a (by omega) (by omega)).2.1, E.1⟩
theorem z_line0 {a c : Nat} (ha : 100 ≤ a) {k d s so k5 : Int32} (N : Nat) : mq_PC mq_G (mq_tT lL) N 54 [.ref a, .int k, .int d, .int s, .int so, .ref c, .int k5] h (fun v h2 => v = none ∧ z_b h h2) := by
  revert N
  refine mq_el_in 60 [] (fun N => ?_)
  intro _ _ _ _ _ _
  refine ⟨rfl, fun e he => ?_, Nat.le_refl _⟩
  funext j
  have nz : ∀ k : Nat, ¬ (e = a ∧ j = k) := fun k z => by have := z.1; omega
  exact (ck_setI_at (nz 5)).trans ((ck_setI_at (nz 3)).trans ((ck_setI_at (nz 2)).trans ((ck_setI_at (nz 1)).trans (ck_setI_at (nz 0)))))
/-- at a state of the automaton, or behind a fault -/
def z_PS (b : Nat → Int) (n : Nat) (h : mq_H) (s : z_S) (t : z_T) (s2 : z_S) (h2 : mq_H) : Prop := z_fw h h2 ∧ ((mq_I h2 35 2 = 0 ∧ ∃ t', z_CT h2 t' ∧ z_tk n t' ∧ z_K b n s t s2 t') ∨ ∃ e f, mq_I h2 35 2 = nI e ∧ ¬ e = 0 ∧ e < 10 ∧ mq_I h2 35 3 = nI f ∧ z_AR b n s t (.inl (e, f)))
theorem z_exp0 {a c : Int32} (f0 : ¬ mq_I h 35 2 = 0) (N : Nat) : mq_PC mq_G (mq_tT lL) N 83 [.retAddr 35, .int a, .int c] h (fun v h2 => v = some (.int 0) ∧ h2 = h) := by
  refine mq_Call.pc ?_ N
  apply mq_enter 40 []
  refine bq_f f0 ?_
  exact ⟨rfl, rfl⟩
theorem z_exp1 (TC : z_TC h b n) {t : z_T} (CT : z_CT h t) (tk : z_tk n t) (f0 : mq_I h 35 2 = 0) {a c : Int32} {lo hi : Int} (ha : a.toInt = lo) (hc : c.toInt = hi) (N : Nat) : mq_PC mq_G (mq_tT lL) N 83 [.retAddr 35, .int a, .int c] h (fun v h2 => ∃ r : Int32, v = some (.int r) ∧ ((lo ≤ t.1 ∧ t.1 ≤ hi ∧ ∃ t', z_LX b n t.2.2.2 t' ∧ z_CT h2 t' ∧ z_fr h h2) ∨ (¬ (lo ≤ t.1 ∧ t.1 ≤ hi) ∧ h2 = mq_setI (mq_setI h 35 2 1) 35 3 (mq_I h 35 6)))) := by
  revert N
  refine mq_el_in 60 [25] (fun N => ?_)
  refine bq_t f0 ?_
  have k25 : ¬ (lo ≤ t.1 ∧ t.1 ≤ hi) → mq_Pn mq_G (mq_tT lL) N 83 25 [some (.retAddr 35), some (.int a), some (.int c), none] [] h (fun v h2 => ∃ r : Int32, v = some (.int r) ∧ ((lo ≤ t.1 ∧ t.1 ≤ hi ∧ ∃ t', z_LX b n t.2.2.2 t' ∧ z_CT h2 t' ∧ z_fr h h2) ∨ (¬ (lo ≤ t.1 ∧ t.1 ≤ hi) ∧ h2 = mq_setI (mq_setI h 35 2 1) 35 3 (mq_I h 35 6)))) := by
    intro nk
    refine (mq_gl (n := N) 40 [] ?_).dn (by omega)
    refine mq_PC.mono (z_blame f0 N) (fun q h2 ⟨eq, eh⟩ => ?_)
    subst eq
    exact ⟨0, rfl, Or.inr ⟨nk, eh⟩⟩
  refine bq_c (fun g => ?_) (fun g => ?_)
  · have g : mq_I h 35 4 < a := g
    rw [lt_i, CT.1, ha] at g
    exact k25 (by omega)
  · have g : ¬ mq_I h 35 4 < a := g
    rw [lt_i, CT.1, ha] at g
    refine bq_c (fun g2 => ?_) (fun g2 => ?_)
    · have g2 : mq_I h 35 4 ≤ c := g2
      rw [le_i, CT.1, hc] at g2
      refine mq_PC.mono (z_adv TC tk.2.1 CT.2.2.1 N) (fun v h2 ⟨ev, t', lx, CT2, F⟩ => ?_)
      subst ev
      exact ⟨_, rfl, Or.inl ⟨by omega, g2, t', lx, CT2, F⟩⟩
    · have g2 : ¬ mq_I h 35 4 ≤ c := g2
      rw [le_i, CT.1, hc] at g2
      exact k25 (by omega)
/-- expect, wherever the text is -/
theorem z_expS (TC : z_TC h b n) {s s1 s2 : z_S} {t : z_T} (P : z_PS b n h s t s1 h1) {a c : Int32} {lo hi : Int} (ha : a.toInt = lo) (hc : c.toInt = hi) (ok : ∀ k z, lo ≤ k → k ≤ hi → z_st s1 k z = .inr (.inr (.inl s2))) (no : ∀ k z, ¬ (lo ≤ k ∧ k ≤ hi) → z_st s1 k z = .inl 1) (N : Nat) : mq_PC mq_G (mq_tT lL) N 83 [.retAddr 35, .int a, .int c] h1 (fun v h2 => (∃ r : Int32, v = some (.int r)) ∧ z_PS b n h s t s2 h2) := by
  obtain ⟨F, P⟩ := P
  rcases P with ⟨f0, t', CT, tk, K⟩ | ⟨e, f, p1, p2, p3, p4, p5⟩
  · refine mq_PC.mono (z_exp1 (TC.fw F) CT tk f0 ha hc N) (fun v h2 ⟨r, ev, hv⟩ => ⟨⟨r, ev⟩, ?_⟩)
    rcases hv with ⟨g1, g2, t2, lx, CT2, F2⟩ | ⟨g, eh⟩
    · exact ⟨F.tr F2.fw, Or.inl ⟨(F2.2 _ _ (by omega)).trans f0, t2, CT2, (z_LX_tk lx).1, K.tr (z_nx (ok _ _ g1 g2) lx)⟩⟩
    · subst eh
      exact ⟨F.tr (z_fw.bl (by decide) h1), Or.inr ⟨1, t'.2.2.1, rfl, by decide, by decide, CT.2.1, K _ (z_ft (no _ _ g))⟩⟩
  · refine mq_PC.mono (z_exp0 (by rw [p1]; exact z_nI0 p2 p3) N) (fun v h2 ⟨ev, eh⟩ => ?_)
    subst eh
    exact ⟨⟨0, ev⟩, F, Or.inr ⟨e, f, p1, p2, p3, p4, p5⟩⟩
theorem z_days (TC : z_TC h b n) {s : z_S} {t0 : z_T} {cn : Nat} (P : z_fw h h1) {t : z_T} (CT : z_CT h1 t) (tk : z_tk n t) (f0 : mq_I h1 35 2 = 0) (K : z_K b n s t0 (21, false, [], cn) t) (N : Nat) : mq_PC mq_G (mq_tT lL) N 82 [.retAddr 35] h1 (fun v h2 => (∃ r : Int32, v = some (.int r)) ∧ z_PS b n h s t0 (23, false, [], cn) h2) := by
  revert N
  refine mq_el_in 60 [22] (fun N => ?_)
  have k22 : ∀ (h2 : mq_H) (l1 : Int32), (∀ N, mq_PC mq_G (mq_tT lL) N 83 [.retAddr 35, .int 2, .int 2] h2 (fun v h3 => (∃ r : Int32, v = some (.int r)) ∧ z_PS b n h s t0 (22, false, [], cn) h3)) → mq_Pn mq_G (mq_tT lL) N 82 22 [some (.retAddr 35), some (.int l1)] [] h2 (fun v h2 => (∃ r : Int32, v = some (.int r)) ∧ z_PS b n h s t0 (23, false, [], cn) h2) := by
    intro h2 l1 ex
    refine (mq_gl (n := N) 60 [] ?_).dn (by omega)
    refine mq_PC.mono (ex N) (fun v h3 ⟨⟨r, ev⟩, P3⟩ => ?_)
    subst ev
    refine mq_PC.mono (z_expS TC P3 (lo := 263) (hi := 265) (s2 := (23, false, [], cn)) rfl rfl (fun k z g1 g2 => if_pos ⟨g1, g2⟩) (fun k z g => if_neg g) N) (fun v h4 ⟨⟨r, ev⟩, P4⟩ => ?_)
    subst ev
    intro _
    exact ⟨⟨_, rfl⟩, P4⟩
  have k22a : ¬ (t.1 = 2 ∧ t.2.1 = true) → mq_Pn mq_G (mq_tT lL) N 82 22 [some (.retAddr 35), some (.int (mq_I h1 35 5))] [] h1 (fun v h2 => (∃ r : Int32, v = some (.int r)) ∧ z_PS b n h s t0 (23, false, [], cn) h2) := by
    intro nz
    refine k22 h1 _ (fun N => mq_PC.mono (z_exp1 (TC.fw P) CT tk f0 (lo := 2) (hi := 2) rfl rfl N) (fun v h2 ⟨r, ev, hv⟩ => ⟨⟨r, ev⟩, ?_⟩))
    rcases hv with ⟨g1, g2, t2, lx, CT2, F2⟩ | ⟨g, eh⟩
    · have e2 : t.1 = 2 := by omega
      have ez : t.2.1 = false := by
        cases e : t.2.1 with
        | false => rfl
        | true => exact absurd ⟨e2, e⟩ nz
      refine ⟨P.tr F2.fw, Or.inl ⟨(F2.2 _ _ (by omega)).trans f0, t2, CT2, (z_LX_tk lx).1, K.tr (z_nx ?_ lx)⟩⟩
      rw [ez]
      exact if_pos e2
    · subst eh
      exact ⟨P.tr (z_fw.bl (by decide) h1), Or.inr ⟨1, t.2.2.1, rfl, by decide, by decide, CT.2.1, K _ (z_ft (if_neg (by omega)))⟩⟩
  refine bn_c (fun n2 => ?_) (fun e2 => ?_)
  · exact k22a (fun z => n2 (x_toI (CT.1.trans z.1) rfl))
  · have e2 : t.1 = 2 := by rw [← CT.1]; exact y_eq e2 rfl
    have nz := CT.2.2.2 e2
    refine bn_c (fun n0 => ?_) (fun n0 => ?_)
    · have n0 : ¬ (mq_I h1 35 5).toInt = 0 := y_ne n0 rfl
      exact k22a (fun z => n0 (nz.mpr z.2))
    · have n0 : (mq_I h1 35 5).toInt = 0 := y_eq n0 rfl
      have ez := nz.mp n0
      refine mq_PC.mono (z_blame f0 N) (fun q h2 ⟨eq, eh⟩ => ?_)
      subst eq
      refine k22 h2 _ (fun N => mq_PC.mono (z_exp0 (by rw [eh]; exact (show ¬ (2 : Int32) = 0 by decide)) N) (fun v h3 ⟨ev, eh3⟩ => ?_))
      subst eh3 eh
      refine ⟨⟨0, ev⟩, P.tr (z_fw.bl (by decide) h1), Or.inr ⟨2, t.2.2.1, rfl, by decide, by decide, CT.2.1, K _ (z_ft ?_)⟩⟩
      rw [ez]
      exact if_pos e2
theorem mq_PC.le {P : mq_P} {T : mq_T} {n m : Nat} {as : List Value} {h : mq_H} {Q : Option Value → mq_H → Prop} (H : mq_PC P T n m as h Q) : mq_PC P T n m as h (fun v h2 => Q v h2 ∧ mq_N h ≤ mq_N h2) := fun L hL f hf v h2 hr => ⟨H L hL f hf v h2 hr, (mq_runN f m 0 L [] h v h2 hr).1⟩
/-- a line -/
def z_PL (b : Nat → Int) (n : Nat) (h : mq_H) (t : z_T) (cn : Nat) (h2 : mq_H) : Prop := z_TC h2 b n ∧ ((mq_I h2 35 2 = 0 ∧ mq_I h2 35 3 = mq_I h 35 3 ∧ cn < 16 ∧ mq_I h2 35 9 = nI (cn + 1) ∧ ∃ t', z_CT h2 t' ∧ z_tk n t' ∧ z_K b n (20, false, [], cn) t (20, false, [], cn + 1) t') ∨ ∃ e f, mq_I h2 35 2 = nI e ∧ ¬ e = 0 ∧ e < 10 ∧ mq_I h2 35 3 = nI f ∧ z_AR b n (20, false, [], cn) t (.inl (e, f)))
theorem z_line (TC : z_TC h b n) (hN : 100 ≤ mq_N h) {t : z_T} {cn : Nat} (CT : z_CT h t) (tk : z_tk n t) (k0 : ¬ t.1 = 0) (f0 : mq_I h 35 2 = 0) (hcn : cn ≤ 16) (ec : mq_I h 35 9 = nI cn) (N : Nat) : mq_PC mq_G (mq_tT lL) N 81 [.retAddr 35] h (fun v h2 => v = none ∧ z_PL b n h t cn h2) := by
  have ct := CT.1
  have kk : ∀ {a : Int32} {x : Int}, a.toInt = x → (mq_I h 35 4 = a ↔ t.1 = x) := fun {a x} ha => ⟨fun z => by rw [← ct, z]; exact ha, fun z => x_toI (ct.trans z) ha⟩
  revert N
  refine mq_el_in 90 [19, 75, 105] (fun N => ?_)
  -- behind a fault
  have bad : ∀ {h2 : mq_H} {e : Nat}, ¬ e = 0 → e < 10 → h2 = mq_setI (mq_setI h 35 2 (nI e)) 35 3 (mq_I h 35 6) → z_AR b n (20, false, [], cn) t (.inl (e, t.2.2.1)) → z_PL b n h t cn h2 := fun {h2 e} ne e10 eh A => by
    subst eh
    exact ⟨TC.fw (z_fw.bl (z_nI0 ne e10) h), Or.inr ⟨e, t.2.2.1, rfl, ne, e10, CT.2.1, A⟩⟩
  have k19 : (t.1 < 256 ∨ 260 < t.1) → mq_Pn mq_G (mq_tT lL) N 81 19 [some (.retAddr 35), some (.int (mq_I h 35 4)), none, none, none, none] [] h (fun v h2 => v = none ∧ z_PL b n h t cn h2) := by
    intro nk
    refine (mq_gl (n := N) 40 [] ?_).dn (by omega)
    refine mq_PC.mono (z_blame f0 N) (fun q h2 ⟨eq, eh⟩ => ?_)
    subst eq
    refine ⟨rfl, bad (e := 1) (by decide) (by decide) eh (z_ft ?_)⟩
    show (if t.1 = 0 then _ else _) = _
    rw [if_neg k0, if_pos nk]
  -- the end of a line
  have k165 : ∀ (N : Nat) (d st so : Int32) (l5 : Option Value) (h1 : mq_H), z_PS b n h (20, false, [], cn) t (20, false, [], cn + 1) h1 → cn < 16 → 100 ≤ mq_N h1 → mq_Pn mq_G (mq_tT lL) N 81 165 [some (.retAddr 35), some (.int (mq_I h 35 4)), some (.int d), some (.int st), some (.int so), l5] [] h1 (fun v h2 => v = none ∧ z_PL b n h t cn h2) := by
    intro N d st so l5 h1 ⟨F, P⟩ c16 hN1
    refine (mq_gl (n := N) 60 [] ?_).dn (by omega)
    rcases P with ⟨g0, t', CT', tk', K⟩ | ⟨e, f, p1, p2, p3, p4, p5⟩
    · refine bn_f g0 ?_
      refine mq_PC.mono (z_copy hN1 N) (fun v h2 ⟨ev, b1, b2⟩ => ?_)
      subst ev
      have N2 : 100 ≤ mq_N h2 := by omega
      refine mq_PC.mono (z_line0 (a := mq_N h2) N2 N) (fun v h3 ⟨ev, b3, b4⟩ => ?_)
      subst ev
      intro _
      have I3 : ∀ a, a < 100 → mq_I h3 a = mq_I h1 a := fun a ha => by
        rw [b3 a ha, ← b1 a ha]
        funext j
        rw [mq_I_new, if_neg (by omega)]
      have lc : mq_I h1 35 9 = nI cn := (F.1 _ _ (by decide) (by decide) (by omega)).trans ec
      have i35 : ∀ k, ¬ k = 9 → mq_I (mq_setI h3 35 9 (mq_I h3 35 9 + 1)) 35 k = mq_I h1 35 k := fun k hk => (ck_setI_at (fun z => hk z.2)).trans (congrFun (I3 35 (by decide)) k)
      have TC1 := TC.fw F
      refine ⟨rfl, ⟨(i35 1 (by decide)).trans TC1.1, TC1.2.1, fun i hi => ?_⟩, Or.inl ⟨(i35 2 (by decide)).trans g0, (i35 3 (by decide)).trans (F.2 g0).2, c16, ?_, t', ⟨?_, (i35 6 (by decide)).trans CT'.2.1, (i35 7 (by decide)).trans CT'.2.2.1, ?_⟩, tk', K⟩⟩
      · have e : mq_I (mq_setI h3 35 9 (mq_I h3 35 9 + 1)) 36 i = mq_I h1 36 i := (ck_setI_at (fun z => absurd z.1 (by decide))).trans (congrFun (I3 36 (by decide)) i)
        have q := TC1.2.2 i hi
        rw [← e] at q
        exact q
      · show mq_I h3 35 9 + 1 = _
        rw [I3 35 (by decide), lc, nI_1]
      · have q := CT'.1
        rw [← i35 4 (by decide)] at q
        exact q
      · have q := CT'.2.2.2
        rw [← i35 5 (by decide)] at q
        exact q
    · refine bn_t (by rw [p1]; exact z_nI0 p2 p3) ?_
      exact ⟨rfl, TC.fw F, Or.inr ⟨e, f, p1, p2, p3, p4, p5⟩⟩
  have k156 : ∀ (N : Nat) (d st so : Int32) (l5 : Option Value) (h1 : mq_H), z_PS b n h (20, false, [], cn) t (27, false, [], cn) h1 → cn < 16 → 100 ≤ mq_N h1 → mq_Pn mq_G (mq_tT lL) N 81 156 [some (.retAddr 35), some (.int (mq_I h 35 4)), some (.int d), some (.int st), some (.int so), l5] [] h1 (fun v h2 => v = none ∧ z_PL b n h t cn h2) := by
    intro N d st so l5 h1 P c16 hN1
    refine (mq_gl (n := N) 60 [165] ?_).dn (by omega)
    refine mq_PC.mono (z_expS TC P (lo := 59) (hi := 59) (s2 := (20, false, [], cn + 1)) rfl rfl (fun k z g1 g2 => if_pos (by omega)) (fun k z g => if_neg (by omega)) N).le (fun v h2 ⟨⟨⟨r, ev⟩, P2⟩, N2⟩ => ?_)
    subst ev
    exact k165 N _ _ _ _ h2 P2 c16 (by omega)
  have k124 : ∀ (N : Nat) (d st so : Int32) (l5 : Option Value) (h1 : mq_H), (¬ t.1 = 260 → z_PS b n h (20, false, [], cn) t (26, false, [], cn) h1) → (t.1 = 260 → z_PS b n h (20, false, [], cn) t (27, false, [], cn) h1) → cn < 16 → 100 ≤ mq_N h1 → mq_Pn mq_G (mq_tT lL) N 81 124 [some (.retAddr 35), some (.int (mq_I h 35 4)), some (.int d), some (.int st), some (.int so), l5] [] h1 (fun v h2 => v = none ∧ z_PL b n h t cn h2) := by
    intro N d st so l5 h1 P1 P2 c16 hN1
    refine (mq_gl (n := N) 60 [156] ?_).dn (by omega)
    refine bq_c (fun e => ?_) (fun e => ?_)
    · exact k156 N _ _ _ _ h1 (P2 ((kk (a := 260) (x := 260) rfl).mp e)) c16 hN1
    · obtain ⟨F, P⟩ := P1 (fun z => e ((kk (a := 260) (x := 260) rfl).mpr z))
      rcases P with ⟨g0, t', CT', tk', K⟩ | ⟨e', f, p1, p2, p3, p4, p5⟩
      · refine bn_c (fun n2 => ?_) (fun e2 => ?_)
        · have n2 : ¬ t'.1 = 262 := fun z => n2 (x_toI (CT'.1.trans z) rfl)
          exact k156 N _ _ _ _ h1 ⟨F, Or.inl ⟨g0, t', CT', tk', K.tr (z_sy (if_neg n2))⟩⟩ c16 hN1
        · have e2 : t'.1 = 262 := by rw [← CT'.1]; exact y_eq e2 rfl
          refine bn_f g0 ?_
          refine mq_PC.mono (z_adv (TC.fw F) tk'.2.1 CT'.2.2.1 N).le (fun v h2 ⟨⟨ev, t2, lx, CT2, F2⟩, N2⟩ => ?_)
          subst ev
          have g2 : mq_I h2 35 2 = 0 := (F2.2 _ _ (by omega)).trans g0
          have F3 := F.tr F2.fw
          refine mq_PC.mono (z_cond (TC.fw F3) (c := cn) CT2 (z_LX_tk lx).1 g2 N).le (fun v h3 ⟨⟨ev, PO⟩, N3⟩ => ?_)
          subst ev
          have K2 : z_K b n (20, false, [], cn) t (0, false, [], cn) t2 := K.tr (z_nx (if_pos e2) lx)
          obtain ⟨F4, PO⟩ := PO
          refine k156 N _ _ _ _ h3 ⟨F3.tr F4, ?_⟩ c16 (by omega)
          rcases PO with ⟨p1, t3, p2, p3, p4⟩ | ⟨e', f, p1, p2, p3, p4, p5⟩
          · exact Or.inl ⟨p1, t3, p2, p3, K2.tr p4⟩
          · exact Or.inr ⟨e', f, p1, p2, p3, p4, K2 _ p5⟩
      · have ps : z_PS b n h (20, false, [], cn) t (27, false, [], cn) h1 := ⟨F, Or.inr ⟨e', f, p1, p2, p3, p4, p5⟩⟩
        refine bn_c (fun _ => k156 N _ _ _ _ h1 ps c16 hN1) (fun _ => ?_)
        exact bn_t (by rw [p1]; exact z_nI0 p2 p3) (k156 N _ _ _ _ h1 ps c16 hN1)
  -- behind the keyword
  have st20 : 256 ≤ t.1 → t.1 ≤ 260 → ¬ 16 ≤ cn → z_st (20, false, [], cn) t.1 t.2.1 = .inr (.inr (.inl (if t.1 ≤ 257 then 21 else if t.1 ≤ 259 then 25 else 27, false, [], cn))) := fun a1 a2 a3 => by
    show (if t.1 = 0 then _ else _) = _
    rw [if_neg k0, if_neg (by omega), if_neg a3]
  refine bq_c (fun g => ?_) (fun g => ?_)
  · rw [lt_i, ct] at g
    have g : t.1 < 256 := g
    exact k19 (Or.inl g)
  rw [lt_i, ct] at g
  have g : ¬ t.1 < 256 := g
  refine bq_c (fun g2 => ?_) (fun g2 => ?_)
  · rw [le_i, ct] at g2
    have g2 : t.1 ≤ 260 := g2
    refine bq_c (fun g3 => ?_) (fun g3 => ?_)
    · have g3 : mq_I h 35 9 < 16 := g3
      rw [ec, lt_i, nI_toInt (by omega)] at g3
      have g3 : (cn : Int) < 16 := g3
      have c16 : cn < 16 := by omega
      refine mq_PC.mono (z_adv TC tk.2.1 CT.2.2.1 N).le (fun v h1 ⟨⟨ev, t1, lx, CT1, F1⟩, N1⟩ => ?_)
      subst ev
      intro _
      have f1 : mq_I h1 35 2 = 0 := (F1.2 _ _ (by omega)).trans f0
      have K1 := z_nx (b := b) (n := n) (st20 (by omega) g2 (by omega)) lx
      have F2 : z_fw h (mq_setI (mq_setI h1 35 11 0) 35 12 0) := (F1.fw.st (by decide)).st (by decide)
      have hN1 : 100 ≤ mq_N h1 := by omega
      have tk1 := (z_LX_tk lx).1
      have k75 : t.1 ≤ 257 → mq_Pn mq_G (mq_tT lL) N 81 75 [some (.retAddr 35), some (.int (mq_I h 35 4)), some (.int 0), some (.int 0), some (.int (-1)), none] [] (mq_setI (mq_setI h1 35 11 0) 35 12 0) (fun v h2 => v = none ∧ z_PL b n h t cn h2) := by
        intro g4
        rw [if_pos g4] at K1
        refine (mq_gl (n := N) 60 [124] ?_).dn (by omega)
        refine mq_PC.mono (z_days (h1 := mq_setI (mq_setI h1 35 11 0) 35 12 0) TC F2 CT1 tk1 f1 K1 N).le (fun v h2 ⟨⟨⟨r, ev⟩, P2⟩, N2⟩ => ?_)
        subst ev
        have N2 : mq_N h1 ≤ mq_N h2 := N2
        refine mq_PC.mono (z_expS TC P2 (lo := 261) (hi := 261) (s2 := (24, false, [], cn)) rfl rfl (fun k z q1 q2 => if_pos (by omega)) (fun k z q => if_neg (by omega)) N).le (fun v h3 ⟨⟨⟨r3, ev⟩, P3⟩, N3⟩ => ?_)
        subst ev
        refine mq_PC.mono (z_expS TC P3 (lo := 266) (hi := 268) (s2 := (26, false, [], cn)) rfl rfl (fun k z q1 q2 => if_pos ⟨q1, q2⟩) (fun k z q => if_neg q) N).le (fun v h4 ⟨⟨⟨r4, ev⟩, P4⟩, N4⟩ => ?_)
        subst ev
        exact k124 N _ _ _ _ h4 (fun _ => P4) (fun z => by omega) c16 (by omega)
      have k105 : 258 ≤ t.1 → mq_Pn mq_G (mq_tT lL) N 81 105 [some (.retAddr 35), some (.int (mq_I h 35 4)), some (.int 0), some (.int 0), some (.int (-1)), none] [] (mq_setI (mq_setI h1 35 11 0) 35 12 0) (fun v h2 => v = none ∧ z_PL b n h t cn h2) := by
        intro g4
        rw [if_neg (by omega)] at K1
        refine (mq_gl (n := N) 60 [124] ?_).dn (by omega)
        refine bq_c (fun e => ?_) (fun e => ?_)
        · have e := (kk (a := 260) (x := 260) rfl).mp e
          rw [if_neg (by omega)] at K1
          exact k124 N _ _ _ _ _ (fun z => absurd e z) (fun _ => ⟨F2, Or.inl ⟨f1, t1, CT1, tk1, K1⟩⟩) c16 hN1
        · have e : ¬ t.1 = 260 := fun z => e ((kk (a := 260) (x := 260) rfl).mpr z)
          rw [if_pos (by omega)] at K1
          have P1 : z_PS b n h (20, false, [], cn) t (25, false, [], cn) (mq_setI (mq_setI h1 35 11 0) 35 12 0) := ⟨F2, Or.inl ⟨f1, t1, CT1, tk1, K1⟩⟩
          refine mq_PC.mono (z_expS TC P1 (lo := 269) (hi := 276) (s2 := (26, false, [], cn)) rfl rfl (fun k z q1 q2 => if_pos ⟨q1, q2⟩) (fun k z q => if_neg q) N).le (fun v h3 ⟨⟨⟨r3, ev⟩, P3⟩, N3⟩ => ?_)
          subst ev
          have N3 : mq_N h1 ≤ mq_N h3 := N3
          exact k124 N _ _ _ _ h3 (fun _ => P3) (fun z => absurd z e) c16 (by omega)
      refine bq_c (fun e => ?_) (fun e => ?_)
      · have e := (kk (a := 256) (x := 256) rfl).mp e
        exact k75 (by omega)
      · have e : ¬ t.1 = 256 := fun z => e ((kk (a := 256) (x := 256) rfl).mpr z)
        refine bn_c (fun e2 => ?_) (fun e2 => ?_)
        · have e2 : ¬ t.1 = 257 := fun z => e2 ((kk (a := 257) (x := 257) rfl).mpr z)
          exact k105 (by omega)
        · have e2 := (kk (a := 257) (x := 257) rfl).mp e2
          exact k75 (by omega)
    · have g3 : ¬ mq_I h 35 9 < 16 := g3
      rw [ec, lt_i, nI_toInt (by omega)] at g3
      have g3 : ¬ (cn : Int) < 16 := g3
      refine mq_PC.mono (z_blame f0 N) (fun q h2 ⟨eq, eh⟩ => ?_)
      subst eq
      refine ⟨rfl, bad (e := 3) (by decide) (by decide) eh (z_ft ?_)⟩
      show (if t.1 = 0 then _ else _) = _
      rw [if_neg k0, if_neg (by omega), if_pos (by omega)]
  · rw [le_i, ct] at g2
    have g2 : ¬ t.1 ≤ 260 := g2
    exact k19 (Or.inr (by omega))
end ZI
