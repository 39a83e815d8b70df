/-! the class: a text -/
section ZJ
variable {lL : Nat} {h h1 h2 : mq_H} {Q : Option Value → mq_H → Prop} {b : Nat → Int} {n : Nat}
theorem z_law0 {a : Nat} {x : Int32} (ha : 100 ≤ a) (haN : a < mq_N h) (N : Nat) : mq_PC mq_G (mq_tT lL) N 53 [.ref a, .retAddr 37, .int x] h (fun v h2 => v = none ∧ mq_R h2 a 0 = some (mq_N h) ∧ mq_sh h2 (mq_N h) = .inr (5, x.toNatClampNeg) ∧ ∀ e, e < 100 → mq_I h2 e = mq_I h e) := by
  have na : ¬ a = mq_N h := by omega
  have lp : ∀ (N : Nat) (s y : Int32) (g : mq_H), mq_R g a 0 = some (mq_N h) → mq_sh g (mq_N h) = .inr (5, x.toNatClampNeg) → (∀ e, e < 100 → mq_I g e = mq_I h e) → mq_Pn mq_G (mq_tT lL) N 53 28 [some (.ref a), some (.retAddr 37), some (.int x), some (.int s), some (.int y)] [] g (fun v h2 => v = none ∧ mq_R h2 a 0 = some (mq_N h) ∧ mq_sh h2 (mq_N h) = .inr (5, x.toNatClampNeg) ∧ ∀ e, e < 100 → mq_I h2 e = mq_I h e) := by
    intro N
    induction N with
    | zero => intro s y g _ _ _; exact mq_Pn.z
    | succ N ih =>
      intro s y g e1 e2 e3
      refine mq_gl 60 [28] ?_
      refine bq_c (fun _ => ?_) (fun _ => ?_)
      · intro _
        refine ⟨rfl, e1, e2, fun e he => ?_⟩
        rw [← e3 e he]
        funext j
        exact ck_setI_at (fun z => by have := z.1; omega)
      · refine bn_c (fun _ => ih _ _ g e1 e2 e3) (fun _ => ?_)
        intro _
        refine ⟨fun _ => trivial, fun q _ => ?_⟩
        intro _
        exact bn_c (fun _ => ih _ _ g e1 e2 e3) (fun _ => ih _ _ g e1 e2 e3)
  revert N
  refine mq_el_in 60 [28] (fun N => ?_)
  intro _ _ _
  have er : mq_R (mq_setR (mq_new h (.inr (5, x.toNatClampNeg)) x.toNatClampNeg) a 0 (some (mq_N h))) a 0 = some (mq_N h) := by rw [mq_R_setR, if_pos rfl, if_pos rfl]
  refine ⟨fun z => ?_, fun q eq => ?_⟩
  · have z : mq_R (mq_setR (mq_new h (.inr (5, x.toNatClampNeg)) x.toNatClampNeg) a 0 (some (mq_N h))) a 0 = none := z
    rw [er] at z
    cases z
  · have eq : mq_R (mq_setR (mq_new h (.inr (5, x.toNatClampNeg)) x.toNatClampNeg) a 0 (some (mq_N h))) a 0 = some q := eq
    rw [er] at eq
    have eq : mq_N h = q := Option.some.inj eq
    subst eq
    intro _
    refine lp N _ _ _ ?_ ?_ (fun e he => ?_)
    · rw [mq_R_cpR _ _ _ _ _ _ _ _ na, er]
    · rw [mq_sh_cpR, mq_sh_setR, mq_sh_new, if_pos rfl]
    · show mq_I (mq_new h (.inr (5, x.toNatClampNeg)) x.toNatClampNeg) e = _
      funext j
      rw [mq_I_new, if_neg (by omega)]
theorem z_fill {c : Nat} (hc : c = 50 ∨ c = 53) {x : Int32} (N : Nat) : mq_PC mq_G (mq_tT lL) N 230 [.retAddr c, .int x] h (fun v h2 => v = none ∧ mq_R h2 = mq_R h ∧ mq_sh h2 = mq_sh h ∧ ∀ a k, ¬ a = c → mq_I h2 a k = mq_I h a k) := by
  have lp : ∀ (N : Nat) (y z : Int32) (h1 : mq_H), mq_R h1 = mq_R h → mq_sh h1 = mq_sh h → (∀ a k, ¬ a = c → mq_I h1 a k = mq_I h a k) → mq_Pn mq_G (mq_tT lL) N 230 5 [some (.retAddr c), some (.int x), some (.int y), some (.int z)] [] h1 (fun v h2 => v = none ∧ mq_R h2 = mq_R h ∧ mq_sh h2 = mq_sh h ∧ ∀ a k, ¬ a = c → mq_I h2 a k = mq_I h a k) := by
    intro N
    induction N with
    | zero => intro y z h1 _ _ _; exact mq_Pn.z
    | succ N ih =>
      intro y z h1 r s f
      rcases hc with rfl | rfl
      · refine mq_gl 60 [5] ?_
        refine bq_c (fun _ => ?_) (fun _ => ?_)
        · exact ⟨rfl, r, s, f⟩
        · intro _
          exact ih _ _ _ r s (fun a k ha => (ck_setI_at (fun z => ha z.1)).trans (f a k ha))
      · refine mq_gl 60 [5] ?_
        refine bq_c (fun _ => ?_) (fun _ => ?_)
        · exact ⟨rfl, r, s, f⟩
        · intro _
          exact ih _ _ _ r s (fun a k ha => (ck_setI_at (fun z => ha z.1)).trans (f a k ha))
  revert N
  rcases hc with rfl | rfl
  · refine mq_el_in 40 [5] (fun N => ?_)
    intro _
    exact lp N _ _ _ rfl rfl (fun _ _ _ => rfl)
  · refine mq_el_in 40 [5] (fun N => ?_)
    intro _
    exact lp N _ _ _ rfl rfl (fun _ _ _ => rfl)
theorem z_fa (N : Nat) : mq_PC mq_G (mq_tT lL) N 45 [.retAddr 49] h (fun v h2 => v = none ∧ mq_R h2 = mq_R h ∧ mq_sh h2 = mq_sh h ∧ ∀ a k, a < 50 ∨ 53 < a → mq_I h2 a k = mq_I h a k) := by
  revert N
  refine mq_el_in 40 [] (fun N => ?_)
  refine mq_PC.mono (z_fill (Or.inr rfl) N) (fun v h1 ⟨ev, r1, s1, f1⟩ => ?_)
  subst ev
  refine mq_PC.mono (z_fill (Or.inl rfl) N) (fun v h2 ⟨ev, r2, s2, f2⟩ => ?_)
  subst ev
  exact ⟨rfl, r2.trans r1, s2.trans s1, fun a k ha => (f2 a k (by omega)).trans (f1 a k (by omega))⟩
theorem z_clr (N : Nat) : mq_PC mq_G (mq_tT lL) N 79 [.retAddr 35] h (fun v h2 => v = none ∧ h2 = mq_setI (mq_setI h 35 2 0) 35 3 (-1)) := by
  refine mq_Call.pc ?_ N
  apply mq_enter 40 []
  exact ⟨rfl, rfl⟩
def z_PR (b : Nat → Int) (n : Nat) (v : Option Value) (h2 : mq_H) : Prop := ∃ t0, z_LX b n 0 t0 ∧ ((∃ e f, v = some .null ∧ mq_I h2 35 2 = nI e ∧ ¬ e = 0 ∧ e < 10 ∧ mq_I h2 35 3 = nI f ∧ z_AR b n (20, false, [], 0) t0 (.inl (e, f))) ∨ ∃ c q a : Nat, v = some (.ref q) ∧ 100 ≤ q ∧ mq_I h2 35 2 = 0 ∧ mq_I h2 35 3 = -1 ∧ mq_R h2 q 0 = some a ∧ mq_sh h2 a = .inr (5, c) ∧ z_AR b n (20, false, [], 0) t0 (.inr c))
theorem z_claw (TC : z_TC h b n) (hN : 100 ≤ mq_N h) (N : Nat) : mq_PC mq_G (mq_tT lL) N 80 [.retAddr 35] h (z_PR b n) := by
  have k50f : ∀ (N : Nat) (l1 : Option Value) (h1 : mq_H) (t0 : z_T) (e f : Nat), z_LX b n 0 t0 → mq_I h1 35 2 = nI e → ¬ e = 0 → e < 10 → mq_I h1 35 3 = nI f → z_AR b n (20, false, [], 0) t0 (.inl (e, f)) → mq_Pn mq_G (mq_tT lL) N 80 50 [some (.retAddr 35), l1] [] h1 (z_PR b n) := by
    intro N l1 h1 t0 e f lx p1 p2 p3 p4 A
    refine (mq_gl (n := N) 60 [] ?_).dn (by omega)
    refine bn_t (by show ¬ mq_I h1 35 2 = 0; rw [p1]; exact z_nI0 p2 p3) ?_
    exact ⟨t0, lx, Or.inl ⟨e, f, rfl, p1, p2, p3, p4, A⟩⟩
  have k50s : ∀ (N : Nat) (l1 : Option Value) (h1 : mq_H) (t0 : z_T) (cn : Nat), z_LX b n 0 t0 → 100 ≤ mq_N h1 → mq_I h1 35 2 = 0 → mq_I h1 35 3 = -1 → cn ≤ 16 → mq_I h1 35 9 = nI cn → z_AR b n (20, false, [], 0) t0 (.inr cn) → mq_Pn mq_G (mq_tT lL) N 80 50 [some (.retAddr 35), l1] [] h1 (z_PR b n) := by
    intro N l1 h1 t0 cn lx hN1 p1 p2 hc p3 A
    refine (mq_gl (n := N) 60 [] ?_).dn (by omega)
    refine bn_f p1 ?_
    have nn : ¬ 35 = mq_N (mq_setI h1 35 1 0) := by show ¬ 35 = mq_N h1; omega
    have ei : mq_I (mq_new (mq_setI h1 35 1 0) (.inl 6) 2) 35 9 = nI cn := by
      rw [mq_I_new, if_neg nn]
      exact p3
    refine mq_PC.mono (z_law0 (h := mq_new (mq_setI h1 35 1 0) (.inl 6) 2) (a := mq_N h1) hN1 (by show mq_N h1 < mq_N h1 + 1; omega) N) (fun v h2 ⟨ev, r1, r2, r3⟩ => ?_)
    subst ev
    have i35 : ∀ k, ¬ k = 1 → mq_I h2 35 k = mq_I h1 35 k := fun k hk => by
      rw [r3 35 (by decide), mq_I_new, if_neg nn]
      exact ck_setI_at (fun z => hk z.2)
    refine ⟨t0, lx, Or.inr ⟨cn, mq_N h1, _, rfl, hN1, (i35 2 (by decide)).trans p1, (i35 3 (by decide)).trans p2, r1, ?_, A⟩⟩
    have q := r2
    rw [ei, nI_clamp (by omega)] at q
    exact q
  have lp : ∀ (N cn : Nat) (y : Int32) (t0 t : z_T) (h1 : mq_H), z_LX b n 0 t0 → y = nI cn → cn ≤ 16 → z_TC h1 b n → 100 ≤ mq_N h1 → z_CT h1 t → z_tk n t → mq_I h1 35 2 = 0 → mq_I h1 35 3 = -1 → mq_I h1 35 9 = nI cn → z_K b n (20, false, [], 0) t0 (20, false, [], cn) t → mq_Pn mq_G (mq_tT lL) N 80 20 [some (.retAddr 35), some (.int y)] [] h1 (z_PR b n) := by
    intro N
    induction N with
    | zero => intro cn y t0 t h1 _ _ _ _ _ _ _ _ _ _ _; exact mq_Pn.z
    | succ N ih =>
      intro cn y t0 t h1 lx ey hc TC1 hN1 CT tk f0 p0 ec K
      subst ey
      refine mq_gl 60 [20, 50] ?_
      refine bq_f (by rw [lt_i, nI_toInt (by omega)]; show ¬ (16 : Int) < (cn : Int); omega) ?_
      refine bq_c (fun e => ?_) (fun e => ?_)
      · have e : t.1 = 0 := by rw [← CT.1]; exact y_eq e rfl
        exact k50s N _ h1 t0 cn lx hN1 f0 p0 hc ec (K _ (z_ok (if_pos e)))
      · have e : ¬ t.1 = 0 := fun z => e (x_toI (CT.1.trans z) rfl)
        refine bn_f f0 ?_
        refine mq_PC.mono (z_line TC1 hN1 CT tk e f0 hc ec N).le (fun v h2 ⟨⟨ev, TC2, hv⟩, N2⟩ => ?_)
        subst ev
        rcases hv with ⟨g0, g1, g2, g3, t', CT2, tk2, K2⟩ | ⟨e', f, p1, p2, p3, p4, A⟩
        · exact ih (cn + 1) _ t0 t' h2 lx (nI_1 _) (by omega) TC2 (by omega) CT2 tk2 g0 (g1.trans p0) g3 (K.tr K2)
        · have kf : ∀ y2, mq_Pn mq_G (mq_tT lL) N 80 20 [some (.retAddr 35), some (.int y2)] [] h2 (z_PR b n) := fun y2 => by
            refine (mq_gl (n := N) 60 [50] ?_).dn (by omega)
            refine bq_c (fun _ => k50f N _ h2 t0 e' f lx p1 p2 p3 p4 (K _ A)) (fun _ => ?_)
            refine bq_c (fun _ => k50f N _ h2 t0 e' f lx p1 p2 p3 p4 (K _ A)) (fun _ => ?_)
            exact bn_t (by rw [p1]; exact z_nI0 p2 p3) (k50f N _ h2 t0 e' f lx p1 p2 p3 p4 (K _ A))
          exact kf _
  revert N
  refine mq_el_in 60 [20] (fun N => ?_)
  refine mq_PC.mono (z_clr N) (fun v h1 ⟨ev, eh⟩ => ?_)
  subst ev eh
  refine mq_PC.mono (z_adv (h := mq_setI (mq_setI (mq_setI (mq_setI h 35 2 0) 35 3 (-1)) 35 9 0) 35 7 0) (b := b) (n := n) (p := 0) ⟨TC.1, TC.2.1, TC.2.2⟩ (Nat.zero_le _) rfl N).le (fun v h2 ⟨⟨ev, t0, lx, CT, F⟩, N2⟩ => ?_)
  subst ev
  have N2 : mq_N h ≤ mq_N h2 := N2
  have TC2 : z_TC h2 b n := ⟨(F.2 _ _ (by omega)).trans TC.1, TC.2.1, fun i hi => by rw [F.2 _ _ (by omega)]; exact TC.2.2 i hi⟩
  exact lp N 0 _ t0 t0 h2 lx rfl (by decide) TC2 (by omega) CT (z_LX_tk lx).1 ((F.2 _ _ (by omega)).trans rfl) ((F.2 _ _ (by omega)).trans rfl) ((F.2 _ _ (by omega)).trans rfl) z_K.rf
/-- what a text comes to, told -/
def z_out (o : z_E) (v fk fp : Int32) : Prop := match o with
  | .inl (e, f) => v = -1 ∧ fk = nI e ∧ fp = nI f
  | .inr c => v = nI c ∧ fk = 0 ∧ fp = -1
theorem z_out_fn {o : z_E} {v w fk gk fp gp : Int32} (a : z_out o v fk fp) (c : z_out o w gk gp) : v = w ∧ fk = gk ∧ fp = gp := by
  cases o with
  | inl x =>
    obtain ⟨a1, a2, a3⟩ := a
    obtain ⟨c1, c2, c3⟩ := c
    exact ⟨a1.trans c1.symm, a2.trans c2.symm, a3.trans c3.symm⟩
  | inr x =>
    obtain ⟨a1, a2, a3⟩ := a
    obtain ⟨c1, c2, c3⟩ := c
    exact ⟨a1.trans c1.symm, a2.trans c2.symm, a3.trans c3.symm⟩
def z_tx (b : Nat → Int) (n : Nat) (x v fk fp : Int32) : Prop := ((0 ≤ x.toInt ∧ x.toInt < 8) ∧ ∃ t0 o, z_LX b n 0 t0 ∧ z_AR b n (20, false, [], 0) t0 o ∧ z_out o v fk fp) ∨ (¬ (0 ≤ x.toInt ∧ x.toInt < 8) ∧ v = -1 ∧ fk = 0 ∧ fp = -1)
theorem z_tx_fn {x v w fk gk fp gp : Int32} (a : z_tx b n x v fk fp) (c : z_tx b n x w gk gp) : v = w ∧ fk = gk ∧ fp = gp := by
  rcases a with ⟨a0, t, o, a1, a2, a3⟩ | ⟨a0, a1, a2, a3⟩ <;> rcases c with ⟨c0, t', o', c1, c2, c3⟩ | ⟨c0, c1, c2, c3⟩
  · have e := z_LX_fn a1 c1
    subst e
    have e := z_AR_fn a2 c2
    subst e
    exact z_out_fn a3 c3
  · exact absurd a0 c0
  · exact absurd c0 a0
  · exact ⟨a1.trans c1.symm, a2.trans c2.symm, a3.trans c3.symm⟩
theorem z_ctext (TC : z_TC h b n) (hN : 100 ≤ mq_N h) {x : Int32} (N : Nat) : mq_PC mq_G (mq_tT lL) N 109 [.retAddr 4, .int x] h (fun v h2 => ∃ r, v = some (.int r) ∧ z_tx b n x r (mq_I h2 35 2) (mq_I h2 35 3)) := by
  revert N
  refine mq_el_in 60 [] (fun N => ?_)
  refine y_wi (k := 8) rfl (fun x0 x8 => ?_) (fun nx => ?_)
  · refine bn_t (by decide) ?_
    refine mq_PC.mono (z_claw TC hN N) (fun v h1 hv => ?_)
    obtain ⟨t0, lx, hv⟩ := hv
    rcases hv with ⟨e, f, rfl, p1, p2, p3, p4, A⟩ | ⟨c, q, a, rfl, hq, p1, p2, r1, r2, A⟩
    · exact ⟨-1, rfl, Or.inl ⟨⟨x0, x8⟩, t0, _, lx, A, rfl, p1, p4⟩⟩
    · intro _
      refine mq_PC.mono (z_fa N) (fun v h3 ⟨ev, R3, S3, F3⟩ => ?_)
      subst ev
      have rq : mq_R h3 q 0 = some a := by
        rw [R3, mq_R_setR, if_neg (show ¬ q = 13 by omega)]
        exact r1
      intro _
      refine ⟨fun z => ?_, fun q2 e2 => ?_⟩
      · have z : mq_R h3 q 0 = none := z
        rw [rq] at z
        cases z
      · have e2 : mq_R h3 q 0 = some q2 := e2
        rw [rq] at e2
        have e2 : a = q2 := Option.some.inj e2
        subst e2
        intro _
        refine ⟨_, rfl, Or.inl ⟨⟨x0, x8⟩, t0, _, lx, A, ?_, (F3 _ _ (by omega)).trans p1, (F3 _ _ (by omega)).trans p2⟩⟩
        show mq_al (mq_sh h3 a) = nI c
        have s3 : mq_sh h3 a = .inr (5, c) := by rw [S3]; exact r2
        rw [s3]
        rfl
  · refine bn_f rfl ?_
    have pa : ∀ N, mq_PC mq_G (mq_tT lL) N 78 [.retAddr 35] h (fun v h2 => v = none ∧ mq_I h2 35 2 = 0 ∧ mq_I h2 35 3 = -1) := by
      refine mq_el_in 40 [] (fun N => ?_)
      refine mq_PC.mono (z_clr N) (fun v h1 ⟨ev, eh⟩ => ?_)
      subst ev eh
      exact ⟨rfl, rfl, rfl⟩
    refine mq_PC.mono (pa N) (fun v h1 ⟨ev, e1, e2⟩ => ?_)
    subst ev
    exact ⟨-1, rfl, Or.inr ⟨nx, rfl, e1, e2⟩⟩
end ZJ
