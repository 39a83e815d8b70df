/-! the reference: a text -/
section ZN
variable {lL : Nat} {h h1 h2 : mq_H} {Q : Option Value → mq_H → Prop} {b : Nat → Int} {n : Nat}
/-- what readText comes to -/
def z_PX (b : Nat → Int) (n : Nat) (h : mq_H) (s : z_S) (t : z_T) (v : Option Value) (h2 : mq_H) : Prop := z_ga h h2 ∧ ((v = some (.int (-1)) ∧ ∃ e f, mq_I h2 59 43 = nI e ∧ ¬ e = 0 ∧ e < 10 ∧ mq_I h2 59 44 = nI f ∧ z_AR b n s t (.inl (e, f))) ∨ ∃ c : Nat, c ≤ 16 ∧ v = some (.int (nI c)) ∧ z_AR b n s t (.inr c))
theorem z_rtx (TM : z_TM h b n) {t : z_T} (MT : z_MT h t) (tk : z_tk n t) (o0 : mq_I h 59 40 = 0) (N : Nat) : mq_PC mq_G (mq_tT lL) N 176 [.retAddr 59] h (z_PX b n h (20, false, [], 0) t) := by
  have bad : ∀ {h1 : mq_H} {t1 : z_T} {e : Nat}, z_ga h h1 → z_MT h1 t1 → ¬ e = 0 → e < 10 → z_AR b n (20, false, [], 0) t (.inl (e, t1.2.2.1)) → z_PX b n h (20, false, [], 0) t (some (.int (-1))) (mq_setI (mq_setI h1 59 43 (nI e)) 59 44 (mq_I h1 59 27)) := fun {h1 t1 e} F MT e0 e1 A => ⟨fun a k p => (ck_setI_at (fun z => by omega)).trans ((ck_setI_at (fun z => by omega)).trans (F a k p)), Or.inl ⟨rfl, e, t1.2.2.1, rfl, e0, e1, MT.1, A⟩⟩
  have lp : ∀ (N cn : Nat) (y : Int32) (l2 l3 : Option Value) (t1 : z_T) (h1 : mq_H), y = nI cn → cn ≤ 16 → z_ga h h1 → z_MT h1 t1 → z_tk n t1 → mq_I h1 59 40 = 0 → z_K b n (20, false, [], 0) t (20, false, [], cn) t1 → mq_Pn mq_G (mq_tT lL) N 176 2 [some (.retAddr 59), some (.int y), l2, l3] [] h1 (z_PX b n h (20, false, [], 0) t) := by
    intro N
    induction N with
    | zero => intro cn y l2 l3 t1 h1 _ _ _ _ _ _ _; exact mq_Pn.z
    | succ N ih =>
      intro cn y l2 l3 t1 h1 ey hc F MT1 tk1 o1 K
      subst ey
      have k177 : (t1.1 < 256 ∨ 260 < t1.1) → mq_Pn mq_G (mq_tT lL) N 176 177 [some (.retAddr 59), some (.int (nI cn)), l2, l3] [] h1 (z_PX b n h (20, false, [], 0) t) := by
        intro nk
        refine (mq_gl (n := N) 40 [] ?_).dn (by omega)
        rcases z_MTe MT1 with ⟨a1, a2⟩ | ⟨a1, a2⟩
        · refine bn_f a1 ?_
          exact ⟨F, Or.inr ⟨cn, hc, rfl, K _ (z_ok (if_pos a2))⟩⟩
        · refine bn_t a1 ?_
          have E := bad (e := 1) F MT1 (by decide) (by decide) (K _ (z_ft (by
            show (if t1.1 = 0 then _ else _) = _
            rw [if_neg a2, if_pos nk])))
          exact z_errs E
      -- the end of a line
      have k141 : ∀ (w l : Int32) (h2 : mq_H) (t2 : z_T), cn < 16 → z_ga h h2 → z_MT h2 t2 → z_tk n t2 → mq_I h2 59 40 = 0 → z_K b n (20, false, [], 0) t (27, false, [], cn) t2 → mq_Pn mq_G (mq_tT lL) N 176 141 [some (.retAddr 59), some (.int (nI cn)), some (.int l), some (.int w)] [] h2 (z_PX b n h (20, false, [], 0) t) := by
        intro w l h2 t2 c16 F2 MT2 tk2 o2 K2
        refine (mq_gl (n := N) 60 [2] ?_).dn (by omega)
        intro _
        have MT2' := MT2.ln (c := 87) (k := l.toNatClampNeg) (x := mq_I h2 59 39) (by decide)
        have F2' : z_ga h (mq_setI h2 87 l.toNatClampNeg (mq_I h2 59 39)) := F2.ln (by decide)
        refine z_isS MT2' (k := 59) rfl (by unfold z_sg; omega) (fun e => ?_) (fun e => ?_)
        · refine bn_t (by decide) ?_
          refine mq_PC.mono (z_rdS (TM.ga F2') MT2' tk2 N) (fun v h3 ⟨ev, t3, lx, MT3, tk3, F3⟩ => ?_)
          subst ev
          exact ih (cn + 1) _ _ _ t3 h3 (nI_1 _) (by omega) (F2'.tr F3.ga) MT3 tk3 (F3.op (z_op_ln o2 (by decide))) (K2.tr (z_nx (if_pos e) lx))
        · refine bn_f rfl ?_
          have E := bad (e := 1) F2' MT2' (by decide) (by decide) (K2 _ (z_ft (if_neg e)))
          exact z_errs E
      have k103 : ∀ (r : Nat) (l : Int32) (h2 : mq_H) (t2 : z_T), cn < 16 → r ≤ 4 → z_ga h h2 → z_MT h2 t2 → z_tk n t2 → mq_I h2 59 40 = 0 → (¬ r = 4 → z_K b n (20, false, [], 0) t (26, false, [], cn) t2) → (r = 4 → z_K b n (20, false, [], 0) t (27, false, [], cn) t2) → mq_Pn mq_G (mq_tT lL) N 176 103 [some (.retAddr 59), some (.int (nI cn)), some (.int l), some (.int (nI r))] [] h2 (z_PX b n h (20, false, [], 0) t) := by
        intro r l h2 t2 c16 r4 F2 MT2 tk2 o2 K6 K7
        refine (mq_gl (n := N) 60 [141] ?_).dn (by omega)
        intro _
        have MT2' := MT2.ln (c := 86) (k := l.toNatClampNeg) (x := mq_I h2 59 39) (by decide)
        have F2' : z_ga h (mq_setI h2 86 l.toNatClampNeg (mq_I h2 59 39)) := F2.ln (by decide)
        have o2' := z_op_ln (h := h2) (c := 86) (k := l.toNatClampNeg) (x := mq_I h2 59 39) o2 (by decide)
        refine bq_c (fun e => ?_) (fun e => ?_)
        · have e : nI r = nI 4 := e
          rw [nI_eq (by omega) (by omega)] at e
          exact k141 _ _ _ t2 c16 F2' MT2' tk2 o2' (K7 e)
        · have e : ¬ nI r = nI 4 := e
          rw [nI_eq (by omega) (by omega)] at e
          have K6 := K6 e
          refine z_isW MT2' (w := 20) (by decide) rfl (fun q => ?_) (fun q => ?_)
          · have q : t2.1 = 262 := q
            refine bq_f (by decide) ?_
            refine mq_PC.mono (z_rdS (TM.ga F2') MT2' tk2 N) (fun v h3 ⟨ev, t3, lx, MT3, tk3, F3⟩ => ?_)
            subst ev
            have K0 : z_K b n (20, false, [], 0) t (0, false, [], cn) t3 := K6.tr (z_nx (if_pos q) lx)
            have F3' := F2'.tr F3.ga
            refine mq_PC.mono (z_any (TM.ga F3') (c := cn) MT3 tk3 (F3.op o2') N) (fun v h4 ⟨F4, hv⟩ => ?_)
            rcases hv with ⟨ev, e', f, p1, p2, p3, p4, p5⟩ | ⟨ev, o4, t4, MT4, tk4, K4⟩
            · subst ev
              refine bn_f rfl ?_
              exact ⟨F3'.tr F4, Or.inl ⟨rfl, e', f, p1, p2, p3, p4, K0 _ p5⟩⟩
            · subst ev
              refine bn_t (by decide) ?_
              exact k141 _ _ h4 t4 c16 (F3'.tr F4) MT4 tk4 o4 (K0.tr K4)
          · have q : ¬ t2.1 = 262 := q
            refine bq_t rfl ?_
            exact k141 _ _ _ t2 c16 F2' MT2' tk2 o2' (K6.tr (z_sy (if_neg q)))
      have k82 : ∀ (r : Nat) (l : Int32) (h2 : mq_H) (t2 : z_T), cn < 16 → r ≤ 4 → z_ga h h2 → z_MT h2 t2 → z_tk n t2 → mq_I h2 59 40 = 0 → (r ≤ 1 → z_K b n (20, false, [], 0) t (26, false, [], cn) t2) → (r = 2 ∨ r = 3 → z_K b n (20, false, [], 0) t (25, false, [], cn) t2) → (r = 4 → z_K b n (20, false, [], 0) t (27, false, [], cn) t2) → mq_Pn mq_G (mq_tT lL) N 176 82 [some (.retAddr 59), some (.int (nI cn)), some (.int l), some (.int (nI r))] [] h2 (z_PX b n h (20, false, [], 0) t) := by
        intro r l h2 t2 c16 r4 F2 MT2 tk2 o2 Ka Kb Kc
        have k92 : (r = 2 ∨ r = 3) → mq_Pn mq_G (mq_tT lL) N 176 92 [some (.retAddr 59), some (.int (nI cn)), some (.int l), some (.int (nI r))] [] h2 (z_PX b n h (20, false, [], 0) t) := by
          intro hr
          refine (mq_gl (n := N) 60 [103] ?_).dn (by omega)
          refine mq_PC.mono (z_msort (TM.ga F2) (cn := cn) MT2 tk2 o2 N) (fun v h3 ⟨F3, hv⟩ => ?_)
          rcases hv with ⟨ev, e', f, p1, p2, p3, p4, p5⟩ | ⟨ev, o3, t3, MT3, tk3, K3⟩
          · subst ev
            refine bn_f rfl ?_
            exact ⟨F2.tr F3, Or.inl ⟨rfl, e', f, p1, p2, p3, p4, Kb hr _ p5⟩⟩
          · subst ev
            refine bn_t (by decide) ?_
            exact k103 r l h3 t3 c16 r4 (F2.tr F3) MT3 tk3 o3 (fun _ => (Kb hr).tr K3) (fun z => by omega)
        refine (mq_gl (n := N) 60 [92, 103] ?_).dn (by omega)
        refine bq_c (fun e => ?_) (fun e => ?_)
        · have e : nI r = nI 2 := e
          rw [nI_eq (by omega) (by omega)] at e
          exact k92 (Or.inl e)
        · have e : ¬ nI r = nI 2 := e
          rw [nI_eq (by omega) (by omega)] at e
          refine bn_c (fun e2 => ?_) (fun e2 => ?_)
          · have e2 : ¬ nI r = nI 3 := e2
            rw [nI_eq (by omega) (by omega)] at e2
            exact k103 r l h2 t2 c16 r4 F2 MT2 tk2 o2 (fun z => Ka (by omega)) Kc
          · have e2 : nI r = nI 3 := e2
            rw [nI_eq (by omega) (by omega)] at e2
            exact k92 (Or.inr e2)
      refine mq_gl 90 [177, 82] ?_
      rcases z_MTw MT1 with ⟨e, r, hr, e2, e3⟩ | ⟨e, e2⟩
      rotate_left
      · refine bn_t e ?_
        exact k177 (Or.inl e2)
      refine bn_f e ?_
      have pd := z_pi_d r hr
      refine bq_c (fun g => ?_) (fun g => ?_)
      · have g : (4 : Int32) < mq_I h1 59 29 := g
        rw [e2, lt_i, nI_toInt (by omega)] at g
        have g : (4 : Int) < (r : Int) := g
        exact k177 (Or.inr (by omega))
      have g : ¬ (4 : Int32) < mq_I h1 59 29 := g
      rw [e2, lt_i, nI_toInt (by omega)] at g
      have g : ¬ (4 : Int) < (r : Int) := g
      have er : z_pi r = r := pd.2 (by omega)
      rw [er] at e3
      have k0 : ¬ t1.1 = 0 := by omega
      refine bn_c (fun n16 => ?_) (fun e16 => ?_)
      · have n16 : ¬ nI cn = nI 16 := n16
        rw [nI_eq (by omega) (by omega)] at n16
        have c16 : cn < 16 := by omega
        intro _ _ _
        have F1' : z_ga h (mq_setI (mq_setI (mq_setI h1 83 ((128 : Int32) + nI cn).toNatClampNeg (mq_I h1 59 29)) 84 ((128 : Int32) + nI cn).toNatClampNeg 0) 85 ((128 : Int32) + nI cn).toNatClampNeg 0) := ((F.ln (by decide)).ln (by decide)).ln (by decide)
        have MT1' : z_MT (mq_setI (mq_setI (mq_setI h1 83 ((128 : Int32) + nI cn).toNatClampNeg (mq_I h1 59 29)) 84 ((128 : Int32) + nI cn).toNatClampNeg 0) 85 ((128 : Int32) + nI cn).toNatClampNeg 0) t1 := ((MT1.ln (by decide)).ln (by decide)).ln (by decide)
        have o1' := z_op_ln (c := 85) (k := ((128 : Int32) + nI cn).toNatClampNeg) (x := 0) (z_op_ln (c := 84) (k := ((128 : Int32) + nI cn).toNatClampNeg) (x := 0) (z_op_ln (c := 83) (k := ((128 : Int32) + nI cn).toNatClampNeg) (x := mq_I h1 59 29) o1 (by decide)) (by decide)) (by decide)
        refine mq_PC.mono (z_rdS (TM.ga F1') MT1' tk1 N) (fun v h2 ⟨ev, t2, lx, MT2, tk2, F2⟩ => ?_)
        subst ev
        have st20 : z_st (20, false, [], cn) t1.1 t1.2.1 = .inr (.inr (.inl (if t1.1 ≤ 257 then 21 else if t1.1 ≤ 259 then 25 else 27, false, [], cn))) := by
          show (if t1.1 = 0 then _ else _) = _
          rw [if_neg k0, if_neg (by omega), if_neg (by omega)]
        have K2 := K.tr (z_nx (b := b) (n := n) st20 lx)
        have F2' := F1'.tr F2.ga
        have o2 := F2.op o1'
        have ewr : mq_I h1 59 29 = nI r := e2
        rw [ewr]
        refine bq_c (fun g2 => ?_) (fun g2 => ?_)
        · rw [lt_i, nI_toInt (by omega)] at g2
          have g2 : (1 : Int) < (r : Int) := g2
          refine k82 r _ h2 t2 c16 (by omega) F2' MT2 tk2 o2 (fun z => by omega) (fun z => ?_) (fun z => ?_)
          · rw [if_neg (by omega), if_pos (by omega)] at K2
            exact K2
          · rw [if_neg (by omega), if_neg (by omega)] at K2
            exact K2
        · rw [lt_i, nI_toInt (by omega)] at g2
          have g2 : ¬ (1 : Int) < (r : Int) := g2
          rw [if_pos (by omega)] at K2
          refine mq_PC.mono (z_mdays (TM.ga F2') (cn := cn) MT2 tk2 o2 N) (fun v h3 ⟨F3, hv⟩ => ?_)
          rcases hv with ⟨ev, e', f, p1, p2, p3, p4, p5⟩ | ⟨ev, o3, t3, MT3, tk3, K3⟩
          · subst ev
            refine bn_f rfl ?_
            exact ⟨F2'.tr F3, Or.inl ⟨rfl, e', f, p1, p2, p3, p4, K2 _ p5⟩⟩
          · subst ev
            refine bn_t (by decide) ?_
            exact k82 r _ h3 t3 c16 (by omega) (F2'.tr F3) MT3 tk3 o3 (fun _ => K2.tr K3) (fun z => by omega) (fun z => by omega)
      · have e16 : nI cn = nI 16 := e16
        rw [nI_eq (by omega) (by omega)] at e16
        have E := bad (e := 3) F MT1 (by decide) (by decide) (K _ (z_ft (by
          show (if t1.1 = 0 then _ else _) = _
          rw [if_neg k0, if_neg (by omega), if_pos (by omega)])))
        exact z_errs E
  revert N
  refine mq_el_in 40 [2] (fun N => ?_)
  exact lp N 0 _ _ _ t h rfl (by decide) (z_ga.rf h) MT tk o0 z_K.rf
theorem z_mtext (TM : z_TM h b n) {x : Int32} (N : Nat) : mq_PC mq_G (mq_tT lL) N 177 [.retAddr 59, .int x] h (fun v h2 => ∃ r, v = some (.int r) ∧ z_tx b n x r (mq_I h2 59 45) (mq_I h2 59 46)) := by
  have lp2 : ∀ (N : Nat) (r k y a1 a2 : Int32) (h1 : mq_H), mq_I h1 59 45 = a1 → mq_I h1 59 46 = a2 → mq_Pn mq_G (mq_tT lL) N 177 223 [some (.retAddr 59), some (.int x), some (.int r), some (.int k), some (.int y)] [] h1 (fun v h2 => v = some (.int k) ∧ mq_I h2 59 45 = a1 ∧ mq_I h2 59 46 = a2) := by
    intro N
    induction N with
    | zero => intro r k y a1 a2 h1 _ _; exact mq_Pn.z
    | succ N ih =>
      intro r k y a1 a2 h1 e f
      refine mq_gl 80 [223] ?_
      refine bq_c (fun _ => ?_) (fun _ => ?_)
      · intro _
        exact ⟨rfl, e, f⟩
      · intro _ _ _ _
        exact ih _ _ _ _ _ _ e f
  have lp1 : ∀ (N : Nat) (r k y a1 a2 : Int32) (h1 : mq_H), mq_I h1 59 45 = a1 → mq_I h1 59 46 = a2 → mq_Pn mq_G (mq_tT lL) N 177 93 [some (.retAddr 59), some (.int x), some (.int r), some (.int k), some (.int y)] [] h1 (fun v h2 => v = some (.int k) ∧ mq_I h2 59 45 = a1 ∧ mq_I h2 59 46 = a2) := by
    intro N
    induction N with
    | zero => intro r k y a1 a2 h1 _ _; exact mq_Pn.z
    | succ N ih =>
      intro r k y a1 a2 h1 e f
      refine mq_gl 80 [93, 223] ?_
      refine bq_c (fun _ => ?_) (fun _ => ?_)
      · exact lp2 _ _ _ _ _ _ _ e f
      · intro _ _ _ _ _ _ _ _ _ _
        exact ih _ _ _ _ _ _ e f
  have go : ∀ {N : Nat} {r k y : Int32} {h1 : mq_H} {R : Option Value → mq_H → Prop}, (∀ v h2, v = some (.int k) ∧ mq_I h2 59 45 = mq_I h1 59 45 ∧ mq_I h2 59 46 = mq_I h1 59 46 → R v h2) → mq_Pn mq_G (mq_tT lL) N 177 93 [some (.retAddr 59), some (.int x), some (.int r), some (.int k), some (.int y)] [] h1 R := fun {N r k y h1 R} hR f hf v h2 hr => hR v h2 (lp1 N r k y _ _ h1 rfl rfl f hf v h2 hr)
  revert N
  refine mq_el_in 80 [53] (fun N => ?_)
  have key : ∀ (l4 : Option Value) (h1 : mq_H) (r k : Int32) (t0 : z_T), z_LX b n 0 t0 → mq_I h1 59 45 = 0 → mq_I h1 59 46 = -1 → ((r = 1 ∧ (0 ≤ x.toInt ∧ x.toInt < 8) ∧ ((k = -1 ∧ ∃ e f, mq_I h1 59 43 = nI e ∧ mq_I h1 59 44 = nI f ∧ z_AR b n (20, false, [], 0) t0 (.inl (e, f))) ∨ ∃ c : Nat, c ≤ 16 ∧ k = nI c ∧ z_AR b n (20, false, [], 0) t0 (.inr c))) ∨ (r = 0 ∧ ¬ (0 ≤ x.toInt ∧ x.toInt < 8) ∧ k = -1)) → mq_Pn mq_G (mq_tT lL) N 177 53 [some (.retAddr 59), some (.int x), some (.int r), some (.int k), l4] [] h1 (fun v h2 => ∃ r, v = some (.int r) ∧ z_tx b n x r (mq_I h2 59 45) (mq_I h2 59 46)) := by
    intro l4 h1 r k t0 lx e1 e2 hk
    refine (mq_gl (n := N) 80 [93] ?_).dn (by omega)
    rcases hk with ⟨rfl, hx, hk⟩ | ⟨rfl, hx, rfl⟩
    · refine bq_f (by decide) ?_
      rcases hk with ⟨rfl, e, f, p1, p2, A⟩ | ⟨c, hc, rfl, A⟩
      · refine bn_f rfl ?_
        refine bn_f rfl ?_
        exact ⟨-1, rfl, Or.inl ⟨hx, t0, _, lx, A, rfl, p1, p2⟩⟩
      · have nm : ¬ nI c = -1 := fun z => by
          have := congrArg Int32.toInt z
          rw [nI_toInt (by omega)] at this
          have : (c : Int) = -1 := this
          omega
        refine bn_t nm ?_
        refine bn_t nm ?_
        exact go (fun v h2 ⟨ev, q1, q2⟩ => ⟨nI c, ev, Or.inl ⟨hx, t0, _, lx, A, rfl, q1.trans e1, q2.trans e2⟩⟩)
    · refine bq_t rfl ?_
      refine bn_f rfl ?_
      exact ⟨-1, rfl, Or.inr ⟨hx, rfl, e1, e2⟩⟩
  refine y_isLp (fun x0 x1 => ?_) (fun nx => ?_)
  · refine mq_PC.mono (z_rds (h := mq_setI (mq_setI (mq_setI (mq_setI (mq_setI (mq_setI h 59 0 0) 59 45 0) 59 46 (-1)) 59 26 0) 59 39 0) 59 40 0) (b := b) (n := n) (p := 0) ⟨TM.1, TM.2.1, TM.2.2.1, TM.2.2.2⟩ (Nat.zero_le _) rfl N) (fun v h1 ⟨ev, t0, lx, MT, F⟩ => ?_)
    subst ev
    refine bq_f (by decide) ?_
    have TM1 : z_TM h1 b n := z_TM.fm F ⟨TM.1, TM.2.1, TM.2.2.1, TM.2.2.2⟩
    refine mq_PC.mono (z_rtx TM1 MT (z_LX_tk lx).1 ((F.2 _ _ (by omega)).trans rfl) N) (fun v h2 ⟨G, hv⟩ => ?_)
    have q1 := G 59 45 (by omega)
    have q2 := G 59 46 (by omega)
    have e1 : mq_I h2 59 45 = 0 := q1.trans ((F.2 _ _ (by omega)).trans rfl)
    have e2 : mq_I h2 59 46 = -1 := q2.trans ((F.2 _ _ (by omega)).trans rfl)
    rcases hv with ⟨ev, e', f, p1, p2, p3, p4, p5⟩ | ⟨c, hc, ev, A⟩
    · subst ev
      exact key _ h2 1 _ t0 lx e1 e2 (Or.inl ⟨rfl, ⟨x0, by omega⟩, Or.inl ⟨rfl, e', f, p1, p4, p5⟩⟩)
    · subst ev
      exact key _ h2 1 _ t0 lx e1 e2 (Or.inl ⟨rfl, ⟨x0, by omega⟩, Or.inr ⟨c, hc, rfl, A⟩⟩)
  · refine mq_PC.mono (z_rds (h := mq_setI (mq_setI (mq_setI (mq_setI (mq_setI (mq_setI h 59 0 0) 59 45 0) 59 46 (-1)) 59 26 0) 59 39 0) 59 40 0) (b := b) (n := n) (p := 0) ⟨TM.1, TM.2.1, TM.2.2.1, TM.2.2.2⟩ (Nat.zero_le _) rfl N) (fun v h1 ⟨ev, t0, lx, MT, F⟩ => ?_)
    subst ev
    refine bq_t rfl ?_
    exact key _ h1 0 _ t0 lx ((F.2 _ _ (by omega)).trans rfl) ((F.2 _ _ (by omega)).trans rfl) (Or.inr ⟨rfl, by omega, rfl⟩)
end ZN
