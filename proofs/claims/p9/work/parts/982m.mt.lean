/-! the reference: lines, and a text -/
section ZM
variable {lL : Nat} {h h1 h2 : mq_H} {Q : Option Value → mq_H → Prop} {b : Nat → Int} {n : Nat}
theorem z_pi_a : ∀ r, r < 29 → ((5 ≤ r ∧ r ≤ 7) ↔ (7 ≤ z_pi r ∧ z_pi r ≤ 9)) := by decide +kernel
theorem z_pi_b : ∀ r, r < 29 → ((9 ≤ r ∧ r ≤ 11) ↔ (10 ≤ z_pi r ∧ z_pi r ≤ 12)) := by decide +kernel
theorem z_pi_c : ∀ r, r < 29 → ((12 ≤ r ∧ r ≤ 19) ↔ (13 ≤ z_pi r ∧ z_pi r ≤ 20)) := by decide +kernel
theorem z_pi_d : ∀ r, r < 29 → (r ≤ 4 ↔ z_pi r ≤ 4) ∧ (r ≤ 4 → z_pi r = r) := by decide +kernel
def z_PT (b : Nat → Int) (n : Nat) (h : mq_H) (s : z_S) (t : z_T) (s2 : z_S) (v : Option Value) (h2 : mq_H) : Prop := z_ga h h2 ∧ ((v = some (.int (-1)) ∧ ∃ e f, mq_I h2 59 43 = nI e ∧ ¬ e = 0 ∧ e < 10 ∧ mq_I h2 59 44 = nI f ∧ z_AR b n s t (.inl (e, f))) ∨ (v = some (.int 0) ∧ mq_I h2 59 40 = 0 ∧ ∃ t', z_MT h2 t' ∧ z_tk n t' ∧ z_K b n s t s2 t'))
theorem z_PT.er {s s2 : z_S} {t t1 : z_T} {e : Nat} (F : z_ga h h1) (MT : z_MT h1 t1) (e0 : ¬ e = 0) (e1 : e < 10) (A : z_AR b n s t (.inl (e, t1.2.2.1))) : z_PT b n h s t s2 (some (.int (-1))) (mq_setI (mq_setI h1 59 43 (nI e)) 59 44 (mq_I h1 59 27)) := ⟨fun a k p => (ck_setI_at (fun z => by omega)).trans ((ck_setI_at (fun z => by omega)).trans (F a k p)), Or.inl ⟨rfl, e, t1.2.2.1, rfl, e0, e1, MT.1, A⟩⟩
/-- a row of lines set: nothing that matters here -/
theorem z_ga.ln {c k : Nat} {x : Int32} (F : z_ga h h1) (hc : 83 ≤ c ∧ c ≤ 89) : z_ga h (mq_setI h1 c k x) := fun a j p => (ck_setI_at (fun z => by omega)).trans (F a j p)
theorem z_MT.ln {c k : Nat} {x : Int32} {t : z_T} (MT : z_MT h t) (hc : 83 ≤ c ∧ c ≤ 89) : z_MT (mq_setI h c k x) t := by
  have f : ∀ j, mq_I (mq_setI h c k x) 59 j = mq_I h 59 j := fun j => ck_setI_at (fun z => by omega)
  obtain ⟨m1, m2, m3⟩ := MT
  exact ⟨(f _).trans m1, (f _).trans m2, by rw [f, f]; exact m3⟩
theorem z_op_ln {c k : Nat} {x : Int32} (o : mq_I h 59 40 = 0) (hc : 83 ≤ c ∧ c ≤ 89) : mq_I (mq_setI h c k x) 59 40 = 0 := (ck_setI_at (fun z => by omega)).trans o
theorem z_gu.op (F : z_gu h h1) (o : mq_I h 59 40 = 0) : mq_I h1 59 40 = 0 := (F _ _ (by decide) (by decide) (by omega)).trans o
theorem z_mdays (TM : z_TM h b n) {t : z_T} {cn : Nat} {x : Int32} (MT : z_MT h t) (tk : z_tk n t) (o0 : mq_I h 59 40 = 0) (N : Nat) : mq_PC mq_G (mq_tT lL) N 174 [.retAddr 59, .int x] h (z_PT b n h (21, false, [], cn) t (26, false, [], cn)) := by
  have bad : ∀ {h1 : mq_H} {t1 : z_T}, z_ga h h1 → z_MT h1 t1 → z_AR b n (21, false, [], cn) t (.inl (1, t1.2.2.1)) → z_PT b n h (21, false, [], cn) t (26, false, [], cn) (some (.int (-1))) (mq_setI (mq_setI h1 59 43 1) 59 44 (mq_I h1 59 27)) := fun F M A => z_PT.er (e := 1) F M (by decide) (by decide) A
  revert N
  refine mq_el_in 90 [58, 99, 147] (fun N => ?_)
  rcases z_MTn MT with ⟨a1, a2, a3⟩ | ⟨a1, a2⟩
  rotate_left
  · refine bq_f a1 ?_
    exact z_errs (bad (z_ga.rf h) MT (z_ft (if_neg a2)))
  refine bq_t a1 ?_
  refine bn_c (fun n0 => ?_) (fun n0 => ?_)
  rotate_left
  · have n0 : (mq_I h 59 29).toInt = 0 := y_eq n0 rfl
    have E := z_PT.er (b := b) (n := n) (s := (21, false, [], cn)) (s2 := (26, false, [], cn)) (t := t) (e := 2) (z_ga.rf h) MT (by decide) (by decide) (z_ft (by rw [a3.mp n0]; exact if_pos a2))
    exact z_errs E
  have n0 : ¬ (mq_I h 59 29).toInt = 0 := y_ne n0 rfl
  have z0 : t.2.1 = false := by
    cases ez : t.2.1 with
    | false => rfl
    | true => exact absurd (a3.mpr ez) n0
  refine mq_PC.mono (z_rdS TM MT tk N) (fun v h1 ⟨ev, t1, lx1, MT1, tk1, F1⟩ => ?_)
  subst ev
  have K1 : z_K b n (21, false, [], cn) t (22, false, [], cn) t1 := z_nx (by rw [z0]; exact if_pos a2) lx1
  have k58 : ¬ (263 ≤ t1.1 ∧ t1.1 ≤ 265) → ∀ l2, mq_Pn mq_G (mq_tT lL) N 174 58 [some (.retAddr 59), some (.int x), l2] [] h1 (z_PT b n h (21, false, [], cn) t (26, false, [], cn)) := by
    intro nk l2
    refine (mq_gl (n := N) 40 [] ?_).dn (by omega)
    exact z_errs (bad F1.ga MT1 (K1 _ (z_ft (if_neg nk))))
  rcases z_MTw MT1 with ⟨e, r, hr, e2, e3⟩ | ⟨e, e2⟩
  rotate_left
  · refine bn_t e ?_
    exact k58 (by omega) _
  refine bn_f e ?_
  have ev : (mq_I h1 59 29).toInt = (r : Int) := by rw [e2, nI_toInt (by omega)]
  have pa := z_pi_a r hr
  refine y_ii (a := 5) (b := 7) rfl rfl (fun g1 g2 => ?_) (fun g => ?_)
  rotate_left
  · refine bn_f rfl ?_
    rw [ev] at g
    exact k58 (by omega) _
  rw [ev] at g1 g2
  refine bn_t (by decide) ?_
  -- behind the unit
  have k99 : ∀ (y z : Int32) (l2 : Option Value) (w : Int32), mq_Pn mq_G (mq_tT lL) N 174 99 [some (.retAddr 59), some (.int x), l2] [.int y, .int z, .int w, .retAddr 84] h1 (z_PT b n h (21, false, [], cn) t (26, false, [], cn)) := by
    intro y z l2 w
    refine (mq_gl (n := N) 90 [147] ?_).dn (by omega)
    intro _
    have MT1' := MT1.ln (c := 84) (k := w.toNatClampNeg) (x := z * y) (by decide)
    refine mq_PC.mono (z_rdS ((TM.ga F1.ga).ga ((z_ga.rf h1).ln (c := 84) (k := w.toNatClampNeg) (x := z * y) (by decide))) MT1' tk1 N) (fun v h2 ⟨ev, t2, lx2, MT2, tk2, F2⟩ => ?_)
    subst ev
    have G2 : z_ga h h2 := (F1.ga.ln (by decide)).tr F2.ga
    have K2 : z_K b n (21, false, [], cn) t (23, false, [], cn) t2 := K1.tr (z_nx (if_pos (by omega)) lx2)
    refine z_isW MT2 (w := 8) (by decide) rfl (fun q => ?_) (fun q => ?_)
    rotate_left
    · have q : ¬ t2.1 = 261 := q
      refine bn_f rfl ?_
      exact z_errs (bad G2 MT2 (K2 _ (z_ft (if_neg q))))
    have q : t2.1 = 261 := q
    refine bn_t (by decide) ?_
    refine mq_PC.mono (z_rdS (TM.ga G2) MT2 tk2 N) (fun v h3 ⟨ev, t3, lx3, MT3, tk3, F3⟩ => ?_)
    subst ev
    have G3 := G2.tr F3.ga
    have K3 : z_K b n (21, false, [], cn) t (24, false, [], cn) t3 := K2.tr (z_nx (if_pos q) lx3)
    have k147 : ¬ (266 ≤ t3.1 ∧ t3.1 ≤ 268) → mq_Pn mq_G (mq_tT lL) N 174 147 [some (.retAddr 59), some (.int x), l2] [] h3 (z_PT b n h (21, false, [], cn) t (26, false, [], cn)) := by
      intro nk
      refine (mq_gl (n := N) 40 [] ?_).dn (by omega)
      exact z_errs (bad G3 MT3 (K3 _ (z_ft (if_neg nk))))
    rcases z_MTw MT3 with ⟨f, r3, hr3, f2, f3⟩ | ⟨f, f2⟩
    rotate_left
    · refine bn_t f ?_
      exact k147 (by omega)
    refine bn_f f ?_
    have fv : (mq_I h3 59 29).toInt = (r3 : Int) := by rw [f2, nI_toInt (by omega)]
    have pb := z_pi_b r3 hr3
    refine y_ii (a := 9) (b := 11) rfl rfl (fun g1 g2 => ?_) (fun g => ?_)
    rotate_left
    · refine bn_f rfl ?_
      rw [fv] at g
      exact k147 (by omega)
    rw [fv] at g1 g2
    refine bn_t (by decide) ?_
    intro _
    have MT3' := MT3.ln (c := 85) (k := x.toNatClampNeg) (x := mq_I h3 59 29 - 9) (by decide)
    refine mq_PC.mono (z_rdS ((TM.ga G3).ga ((z_ga.rf h3).ln (c := 85) (k := x.toNatClampNeg) (x := mq_I h3 59 29 - 9) (by decide))) MT3' tk3 N) (fun v h4 ⟨ev, t4, lx4, MT4, tk4, F4⟩ => ?_)
    subst ev
    refine ⟨(G3.ln (by decide)).tr F4.ga, Or.inr ⟨rfl, F4.op (z_op_ln (F3.op (F2.op (z_op_ln (F1.op o0) (by decide)))) (by decide)), t4, MT4, tk4, K3.tr (z_nx (if_pos (by omega)) lx4)⟩⟩
  refine bn_c (fun _ => ?_) (fun _ => k99 _ _ _ _)
  exact bn_c (fun _ => k99 _ _ _ _) (fun _ => k99 _ _ _ _)
theorem z_msort (TM : z_TM h b n) {t : z_T} {cn : Nat} {x : Int32} (MT : z_MT h t) (tk : z_tk n t) (o0 : mq_I h 59 40 = 0) (N : Nat) : mq_PC mq_G (mq_tT lL) N 175 [.retAddr 59, .int x] h (z_PT b n h (25, false, [], cn) t (26, false, [], cn)) := by
  revert N
  refine mq_el_in 90 [23] (fun N => ?_)
  have k23 : ¬ (269 ≤ t.1 ∧ t.1 ≤ 276) → mq_Pn mq_G (mq_tT lL) N 175 23 [some (.retAddr 59), some (.int x)] [] h (z_PT b n h (25, false, [], cn) t (26, false, [], cn)) := by
    intro nk
    refine (mq_gl (n := N) 40 [] ?_).dn (by omega)
    have E := z_PT.er (b := b) (n := n) (s := (25, false, [], cn)) (s2 := (26, false, [], cn)) (t := t) (e := 1) (z_ga.rf h) MT (by decide) (by decide) (z_ft (if_neg nk))
    exact z_errs E
  rcases z_MTw MT with ⟨e, r, hr, e2, e3⟩ | ⟨e, e2⟩
  rotate_left
  · refine bn_t e ?_
    exact k23 (by omega)
  refine bn_f e ?_
  have ev : (mq_I h 59 29).toInt = (r : Int) := by rw [e2, nI_toInt (by omega)]
  have pc := z_pi_c r hr
  refine y_ii (a := 12) (b := 19) rfl rfl (fun g1 g2 => ?_) (fun g => ?_)
  rotate_left
  · refine bn_f rfl ?_
    rw [ev] at g
    exact k23 (by omega)
  rw [ev] at g1 g2
  refine bn_t (by decide) ?_
  intro _
  have MT' := MT.ln (c := 84) (k := x.toNatClampNeg) (x := mq_I h 59 29 - 12) (by decide)
  refine mq_PC.mono (z_rdS (TM.ga ((z_ga.rf h).ln (c := 84) (k := x.toNatClampNeg) (x := mq_I h 59 29 - 12) (by decide))) MT' tk N) (fun v h4 ⟨ev, t4, lx4, MT4, tk4, F4⟩ => ?_)
  subst ev
  exact ⟨((z_ga.rf h).ln (by decide)).tr F4.ga, Or.inr ⟨rfl, F4.op (z_op_ln o0 (by decide)), t4, MT4, tk4, z_nx (if_pos (by omega)) lx4⟩⟩
end ZM
